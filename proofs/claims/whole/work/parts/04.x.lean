
abbrev St : Type := Nat → Nat → Int32
def up {α : Type} (f : Nat → α) (k : Nat) (v : α) : Nat → α := fun j => cond (Nat.beq j k) v (f j)
theorem up_s {α : Type} {f : Nat → α} {k : Nat} {v : α} : up f k v k = v := by simp [up, Nat.beq_refl]
theorem up_n {α : Type} {f : Nat → α} {k j : Nat} {v : α} (h : j ≠ k) : up f k v j = f j := by
  have : Nat.beq j k = false := by
    cases hb : Nat.beq j k
    · rfl
    · exact absurd (Nat.eq_of_beq_eq_true hb) h
  simp [up, this]
/-- a scalar is put -/
def us (s : St) (k : Nat) (v : Int32) : St := up s k (fun _ => v)
/-- a place of a row is put -/
def ua (s : St) (k : Nat) (i : Int32) (v : Int32) : St := up s k (upd (s k) i.toNatClampNeg v)
def zb (v : Int32) : Prop := v = 0 ∨ v = 1
theorem zb_n {v : Int32} (h : zb v) : narrow .boolean (.int v) = .int v := by rcases h with h | h <;> subst h <;> rfl
theorem zb_f {v : Int32} (h : zb v) : fits .boolean (.int v) = true := by rcases h with h | h <;> subst h <;> rfl
theorem zb_v {v : Int32} (h : zb v) : vp_nar .boolean v = v := by rcases h with h | h <;> subst h <;> rfl
theorem zb_0 : zb 0 := Or.inl rfl
theorem zb_1 : zb 1 := Or.inr rfl
def ORD (j : Nat) : Int32 := ([0, 1, 2, 3, 9, 13, 6, 14, 7, 11, 57, 45, 54, 30, 39, 27] : List Int32).getD j 0
def GAP (j : Nat) : Int32 := ([701, 301, 132, 57, 23, 10, 4, 1] : List Int32).getD j 0
def NWS (U : State) : Prop := va_Nw (.methodLinkNest RX9 9 yX7_init "ShrinkingCalls") U ∧ va_Nw (.methodLinkNest RX9 18 yX1_init "ShrinkingCalls") U ∧ va_Nw (.methodLinkNest RX9 28 yX5_init "ShrinkingCalls") U ∧ va_Nw (.methodLinkNest RX9 42 yX4_init "ShrinkingCalls") U ∧ va_Nw (.methodLinkNest RX9 49 yX6_init "ShrinkingCalls") U ∧ va_Nw (.methodLinkNest RX9 56 yX8_init "ShrinkingCalls") U
theorem NWS.warm {s U : State} (hW : s.WarmedH U.vm) (h : NWS s) : NWS U := ⟨va_Nw.warmM hW h.1, va_Nw.warmM hW h.2.1, va_Nw.warmM hW h.2.2.1, va_Nw.warmM hW h.2.2.2.1, va_Nw.warmM hW h.2.2.2.2.1, va_Nw.warmM hW h.2.2.2.2.2⟩
theorem NWS.same {u U : State} (hv : u.vm = U.vm) (h : NWS u) : NWS U := ⟨va_Nw.same rfl hv h.1, va_Nw.same rfl hv h.2.1, va_Nw.same rfl hv h.2.2.1, va_Nw.same rfl hv h.2.2.2.1, va_Nw.same rfl hv h.2.2.2.2.1, va_Nw.same rfl hv h.2.2.2.2.2⟩
/-- what lies outside the worlds: static rows, String constants -/
def EXT (g : Nat → Nat) (A : Nat → Prop) (U : State) (H : Heap) : Prop :=
  (va_Z "ShrinkingCalls" "ORDERS" "[I" (.ref (g 0)) A U H ∧ va_T .int (g 0) 16 (fun j => .int (ORD j)) A U H) ∧
  (va_Z "ShrinkingCalls$Closure" "GAPS" "[I" (.ref (g 1)) A U H ∧ va_T .int (g 1) 8 (fun j => .int (GAP j)) A U H) ∧
  (va_Z "java/lang/String" "COMPACT_STRINGS" "Z" (.int 1) A U H ∧ vk_S 2 [3, 4] [[97, 99, 116], [99, 97, 108, 108]] (fun i => g (2 + i)) (fun i => g (4 + i)) A U H) ∧
  (vk_R "ShrinkingCalls$TextReader" 112 "act" (g 2) U ∧ vk_R "ShrinkingCalls$TextReader" 118 "call" (g 3) U) ∧ va_Zq "jdk/internal/util/Preconditions" "SIOOBE_FORMATTER" "Ljava/util/function/BiFunction;" A U H ∧ NWS U
theorem EXT.narrow {g : Nat → Nat} {A B : Nat → Prop} {U : State} {H : Heap} (h : EXT g A U H) (hAB : ∀ q, B q → A q) : EXT g B U H := by
  obtain ⟨⟨a1, a2⟩, ⟨a3, a4⟩, ⟨a5, a6⟩, a7, a9, a10⟩ := h
  exact ⟨⟨a1.narrow hAB, a2.narrow hAB⟩, ⟨a3.narrow hAB, a4.narrow hAB⟩, ⟨a5.narrow hAB, a6.narrow hAB⟩, a7, by rcases a9 with a9 | ⟨t, a9⟩; exact Or.inl (a9.narrow hAB); exact Or.inr ⟨t, a9.narrow hAB⟩, a10⟩
theorem EXT.kept {g : Nat → Nat} {A : Nat → Prop} {U : State} {H H1 : Heap} (h : EXT g A U H) (hq : ∀ a : Nat, a < H.size → ¬ A a → H1[a]? = H[a]?) : EXT g A U H1 := by
  obtain ⟨⟨a1, a2⟩, ⟨a3, a4⟩, ⟨a5, a6⟩, a7, a9, a10⟩ := h
  exact ⟨⟨a1.kept hq, a2.kept hq⟩, ⟨a3.kept hq, a4.kept hq⟩, ⟨a5.kept hq, a6.kept hq⟩, a7, a9.kept hq, a10⟩
theorem EXT.warm {g : Nat → Nat} {A : Nat → Prop} {s U : State} {H : Heap} (hW : s.WarmedH U.vm) (h : EXT g A s H) : EXT g A U H := by
  obtain ⟨⟨a1, a2⟩, ⟨a3, a4⟩, ⟨a5, a6⟩, ⟨a7, a8⟩, a9, a10⟩ := h
  exact ⟨⟨a1.moved hW.alike, a2.moved hW.alike⟩, ⟨a3.moved hW.alike, a4.moved hW.alike⟩, ⟨a5.moved hW.alike, a6.moved hW.alike⟩, ⟨a7.warm hW, a8.warm hW⟩, a9.moved hW.alike, a10.warm hW⟩
theorem EXT.calling {g : Nat → Nat} {A : Nat → Prop} {U : State} {H : Heap} {gf : JFrame} {mk : MethodId} {a : Array Value} (h : EXT g A U H) : EXT g A (U.calling gf mk a) H := by
  obtain ⟨⟨a1, a2⟩, ⟨a3, a4⟩, ⟨a5, a6⟩, ⟨a7, a8⟩, a9, a10⟩ := h
  have hr := Vm.Alike.refl U.vm
  exact ⟨⟨va_Z.moved (u := U) (U := U.calling gf mk a) hr a1, va_T.moved (u := U) (U := U.calling gf mk a) hr a2⟩, ⟨va_Z.moved (u := U) (U := U.calling gf mk a) hr a3, va_T.moved (u := U) (U := U.calling gf mk a) hr a4⟩, ⟨va_Z.moved (u := U) (U := U.calling gf mk a) hr a5, vk_S.moved (u := U) (U := U.calling gf mk a) hr a6⟩, ⟨vk_R.same (u := U) (U := U.calling gf mk a) rfl a7, vk_R.same (u := U) (U := U.calling gf mk a) rfl a8⟩, va_Zq.moved (u := U) (U := U.calling gf mk a) hr a9, NWS.same (u := U) (U := U.calling gf mk a) rfl a10⟩
/-- the machine's fixed things in one -/
abbrev CT : Type := Program × Launch × Env × Room × State × MethodId × Array Value × List Frame × Method × Code × (State → Prop) × (Nat → Prop) × va_G × (ClassId × ClassId) × (Nat → Nat)
abbrev xl (x : CT) : Launch := x.2.1
abbrev xD (x : CT) : va_G := x.2.2.2.2.2.2.2.2.2.2.2.2.1
abbrev xk (x : CT) : ClassId × ClassId := x.2.2.2.2.2.2.2.2.2.2.2.2.2.1
abbrev xg (x : CT) : Nat → Nat := x.2.2.2.2.2.2.2.2.2.2.2.2.2.2
abbrev tyL (k : ClassId × ClassId) : List (ClassId × FieldType) := [(k.1, .int), (k.2, .boolean)]
abbrev Tb : Type := List (Nat × Instr × Nat)
def tbOk (cc : ByteArray) (tb : Tb) : Bool := tb.all (fun q => decide (decode cc q.1 = .ok (q.2.1, q.2.2)))
theorem tb_at {cc : ByteArray} {tb : Tb} (h : tbOk cc tb = true) {i pc n : Nat} {ins : Instr} (hi : tb[i]? = some (pc, ins, n)) : decode cc pc = .ok (ins, n) := of_decide_eq_true (List.all_eq_true.mp h (pc, ins, n) (List.mem_of_getElem? hi))
theorem mm {α : Type} {Ts : List α} {w : α} (i : Nat) (h : Ts[i]? = some w) : w ∈ Ts := List.mem_of_getElem? h
/-- what holds in a method's whole body -/
def Cx (x : CT) (cc : ByteArray) (tb : Tb) (nL : Nat) (own : String) (Ts : List Cond) (rm : Room) : Prop := match x with
  | (p, l, e, R, s, m, args, below, meth, c, Q, A, D, k, g) => CallFix p m c cc nL s args Ts own ∧ tbOk cc tb = true ∧ R = rm ∧ (∀ q, s.heap.size ≤ q → A q) ∧ va_K D vwCl (tyL k) s ∧ meth.locks = false ∧ EXT g A s s.heap
/-- from every heap that holds the cells ws, at pc, with the locals lv and the stack st, the method comes to its end -/
def Wx (x : CT) (nL ce sl : Nat) (ws : va_W) (lv : List (Nat × Value)) (pc : Nat) (st : List Value) : Prop := match x with
  | (p, l, e, R, s, m, args, below, meth, c, Q, A, D, k, g) => ∀ (H : Heap) (locs : List Loc) (ls : Array Slot), va_P D vwCl ws H → va_D A ws → va_S A s.heap H locs → lv_has ls nL lv → W p l e R s m args below meth c H locs ce sl Q (F0 m pc ls st)
section XR
variable {x : CT} {cc : ByteArray} {tb : Tb} {nL : Nat} {own : String} {Ts : List Cond} {rm : Room} {ce sl : Nat} {ws : va_W} {lv : List (Nat × Value)} {st : List Value}
theorem x_sub {lv' : List (Nat × Value)} {pc : Nat} (ks : List Nat) (hl : lv_pick lv ks = lv') (h : Wx x nL ce sl ws lv' pc st) : Wx x nL ce sl ws lv pc st := by
  obtain ⟨p, l, e, R, s, m, args, below, meth, c, Q, A, D, k, g⟩ := x
  exact fun H locs ls hP hD hS hl' => h H locs ls hP hD hS (lv_sub hl' ks hl)
theorem x_topi {pc : Nat} {a : Int32} (k : ∀ y : Int32, y = a → Wx x nL ce sl ws lv pc (.int y :: st)) : Wx x nL ce sl ws lv pc (.int a :: st) := k a rfl
theorem x_topl {pc : Nat} {a : Int64} (k : ∀ y : Int64, y = a → Wx x nL ce sl ws lv pc (.long y :: st)) : Wx x nL ce sl ws lv pc (.long a :: st) := k a rfl

theorem x_iadd (C : Cx x cc tb nL own Ts rm) (i pc : Nat) {a b : Int32} (hi : tb[i]? = some (pc, .iadd, 1))  (h : Wx x nL ce sl ws lv (pc + 1) (.int (a + b) :: st)) : Wx x nL ce sl ws lv pc (.int b :: .int a :: st) := by
  obtain ⟨p, l, e, R, s, m, args, below, meth, c, Q, A, D, k, g⟩ := x
  obtain ⟨⟨hx, hb, hml, hown, hts⟩, htb, hR, hA, hK, hlk, hE⟩ := C
  intro H locs ls hP hD hS hl
  exact lv_iadd hx hb (tb_at htb hi) (h H locs ls hP hD hS hl)

theorem x_isub (C : Cx x cc tb nL own Ts rm) (i pc : Nat) {a b : Int32} (hi : tb[i]? = some (pc, .isub, 1))  (h : Wx x nL ce sl ws lv (pc + 1) (.int (a - b) :: st)) : Wx x nL ce sl ws lv pc (.int b :: .int a :: st) := by
  obtain ⟨p, l, e, R, s, m, args, below, meth, c, Q, A, D, k, g⟩ := x
  obtain ⟨⟨hx, hb, hml, hown, hts⟩, htb, hR, hA, hK, hlk, hE⟩ := C
  intro H locs ls hP hD hS hl
  exact lv_isub hx hb (tb_at htb hi) (h H locs ls hP hD hS hl)

theorem x_imul (C : Cx x cc tb nL own Ts rm) (i pc : Nat) {a b : Int32} (hi : tb[i]? = some (pc, .imul, 1))  (h : Wx x nL ce sl ws lv (pc + 1) (.int (a * b) :: st)) : Wx x nL ce sl ws lv pc (.int b :: .int a :: st) := by
  obtain ⟨p, l, e, R, s, m, args, below, meth, c, Q, A, D, k, g⟩ := x
  obtain ⟨⟨hx, hb, hml, hown, hts⟩, htb, hR, hA, hK, hlk, hE⟩ := C
  intro H locs ls hP hD hS hl
  exact lv_imul hx hb (tb_at htb hi) (h H locs ls hP hD hS hl)

theorem x_iand (C : Cx x cc tb nL own Ts rm) (i pc : Nat) {a b : Int32} (hi : tb[i]? = some (pc, .iand, 1))  (h : Wx x nL ce sl ws lv (pc + 1) (.int (a &&& b) :: st)) : Wx x nL ce sl ws lv pc (.int b :: .int a :: st) := by
  obtain ⟨p, l, e, R, s, m, args, below, meth, c, Q, A, D, k, g⟩ := x
  obtain ⟨⟨hx, hb, hml, hown, hts⟩, htb, hR, hA, hK, hlk, hE⟩ := C
  intro H locs ls hP hD hS hl
  exact lv_iand hx hb (tb_at htb hi) (h H locs ls hP hD hS hl)

theorem x_ior (C : Cx x cc tb nL own Ts rm) (i pc : Nat) {a b : Int32} (hi : tb[i]? = some (pc, .ior, 1))  (h : Wx x nL ce sl ws lv (pc + 1) (.int (a ||| b) :: st)) : Wx x nL ce sl ws lv pc (.int b :: .int a :: st) := by
  obtain ⟨p, l, e, R, s, m, args, below, meth, c, Q, A, D, k, g⟩ := x
  obtain ⟨⟨hx, hb, hml, hown, hts⟩, htb, hR, hA, hK, hlk, hE⟩ := C
  intro H locs ls hP hD hS hl
  exact lv_ior hx hb (tb_at htb hi) (h H locs ls hP hD hS hl)

theorem x_ixor (C : Cx x cc tb nL own Ts rm) (i pc : Nat) {a b : Int32} (hi : tb[i]? = some (pc, .ixor, 1))  (h : Wx x nL ce sl ws lv (pc + 1) (.int (a ^^^ b) :: st)) : Wx x nL ce sl ws lv pc (.int b :: .int a :: st) := by
  obtain ⟨p, l, e, R, s, m, args, below, meth, c, Q, A, D, k, g⟩ := x
  obtain ⟨⟨hx, hb, hml, hown, hts⟩, htb, hR, hA, hK, hlk, hE⟩ := C
  intro H locs ls hP hD hS hl
  exact lv_ixor hx hb (tb_at htb hi) (h H locs ls hP hD hS hl)

theorem x_ishl (C : Cx x cc tb nL own Ts rm) (i pc : Nat) {a b : Int32} (hi : tb[i]? = some (pc, .ishl, 1))  (h : Wx x nL ce sl ws lv (pc + 1) (.int (a <<< (b &&& 31)) :: st)) : Wx x nL ce sl ws lv pc (.int b :: .int a :: st) := by
  obtain ⟨p, l, e, R, s, m, args, below, meth, c, Q, A, D, k, g⟩ := x
  obtain ⟨⟨hx, hb, hml, hown, hts⟩, htb, hR, hA, hK, hlk, hE⟩ := C
  intro H locs ls hP hD hS hl
  exact lv_ishl hx hb (tb_at htb hi) (h H locs ls hP hD hS hl)

theorem x_ishr (C : Cx x cc tb nL own Ts rm) (i pc : Nat) {a b : Int32} (hi : tb[i]? = some (pc, .ishr, 1))  (h : Wx x nL ce sl ws lv (pc + 1) (.int (a >>> (b &&& 31)) :: st)) : Wx x nL ce sl ws lv pc (.int b :: .int a :: st) := by
  obtain ⟨p, l, e, R, s, m, args, below, meth, c, Q, A, D, k, g⟩ := x
  obtain ⟨⟨hx, hb, hml, hown, hts⟩, htb, hR, hA, hK, hlk, hE⟩ := C
  intro H locs ls hP hD hS hl
  exact lv_ishr hx hb (tb_at htb hi) (h H locs ls hP hD hS hl)

theorem x_iushr (C : Cx x cc tb nL own Ts rm) (i pc : Nat) {a b : Int32} (hi : tb[i]? = some (pc, .iushr, 1))  (h : Wx x nL ce sl ws lv (pc + 1) (.int ((a.toUInt32 >>> (b.toUInt32 &&& Int32.toUInt32 31)).toInt32) :: st)) : Wx x nL ce sl ws lv pc (.int b :: .int a :: st) := by
  obtain ⟨p, l, e, R, s, m, args, below, meth, c, Q, A, D, k, g⟩ := x
  obtain ⟨⟨hx, hb, hml, hown, hts⟩, htb, hR, hA, hK, hlk, hE⟩ := C
  intro H locs ls hP hD hS hl
  exact lv_iushr hx hb (tb_at htb hi) rfl (h H locs ls hP hD hS hl)

theorem x_idiv (C : Cx x cc tb nL own Ts rm) (i pc : Nat) {a b : Int32} (hi : tb[i]? = some (pc, .idiv, 1)) (hne : ¬ b = 0) (h : Wx x nL ce sl ws lv (pc + 1) (.int (a / b) :: st)) : Wx x nL ce sl ws lv pc (.int b :: .int a :: st) := by
  obtain ⟨p, l, e, R, s, m, args, below, meth, c, Q, A, D, k, g⟩ := x
  obtain ⟨⟨hx, hb, hml, hown, hts⟩, htb, hR, hA, hK, hlk, hE⟩ := C
  intro H locs ls hP hD hS hl
  exact lv_idiv hx hb (tb_at htb hi) hne (h H locs ls hP hD hS hl)

theorem x_irem (C : Cx x cc tb nL own Ts rm) (i pc : Nat) {a b : Int32} (hi : tb[i]? = some (pc, .irem, 1)) (hne : ¬ b = 0) (h : Wx x nL ce sl ws lv (pc + 1) (.int (a - a / b * b) :: st)) : Wx x nL ce sl ws lv pc (.int b :: .int a :: st) := by
  obtain ⟨p, l, e, R, s, m, args, below, meth, c, Q, A, D, k, g⟩ := x
  obtain ⟨⟨hx, hb, hml, hown, hts⟩, htb, hR, hA, hK, hlk, hE⟩ := C
  intro H locs ls hP hD hS hl
  exact lv_irem hx hb (tb_at htb hi) hne (h H locs ls hP hD hS hl)

theorem x_i2l (C : Cx x cc tb nL own Ts rm) (i pc : Nat) {a : Int32} (hi : tb[i]? = some (pc, .i2l, 1))  (h : Wx x nL ce sl ws lv (pc + 1) (.long (a.toInt64) :: st)) : Wx x nL ce sl ws lv pc (.int a :: st) := by
  obtain ⟨p, l, e, R, s, m, args, below, meth, c, Q, A, D, k, g⟩ := x
  obtain ⟨⟨hx, hb, hml, hown, hts⟩, htb, hR, hA, hK, hlk, hE⟩ := C
  intro H locs ls hP hD hS hl
  exact lv_i2l hx hb (tb_at htb hi) rfl (h H locs ls hP hD hS hl)

theorem x_i2c (C : Cx x cc tb nL own Ts rm) (i pc : Nat) {a : Int32} (hi : tb[i]? = some (pc, .i2c, 1))  (h : Wx x nL ce sl ws lv (pc + 1) (.int ((a.toUInt32 % 65536).toInt32) :: st)) : Wx x nL ce sl ws lv pc (.int a :: st) := by
  obtain ⟨p, l, e, R, s, m, args, below, meth, c, Q, A, D, k, g⟩ := x
  obtain ⟨⟨hx, hb, hml, hown, hts⟩, htb, hR, hA, hK, hlk, hE⟩ := C
  intro H locs ls hP hD hS hl
  exact lv_i2c hx hb (tb_at htb hi) rfl (h H locs ls hP hD hS hl)

theorem x_l2i (C : Cx x cc tb nL own Ts rm) (i pc : Nat) {a : Int64} (hi : tb[i]? = some (pc, .l2i, 1))  (h : Wx x nL ce sl ws lv (pc + 1) (.int (a.toInt32) :: st)) : Wx x nL ce sl ws lv pc (.long a :: st) := by
  obtain ⟨p, l, e, R, s, m, args, below, meth, c, Q, A, D, k, g⟩ := x
  obtain ⟨⟨hx, hb, hml, hown, hts⟩, htb, hR, hA, hK, hlk, hE⟩ := C
  intro H locs ls hP hD hS hl
  exact lv_l2i hx hb (tb_at htb hi) rfl (h H locs ls hP hD hS hl)

theorem x_ladd (C : Cx x cc tb nL own Ts rm) (i pc : Nat) {a b : Int64} (hi : tb[i]? = some (pc, .ladd, 1))  (h : Wx x nL ce sl ws lv (pc + 1) (.long (a + b) :: st)) : Wx x nL ce sl ws lv pc (.long b :: .long a :: st) := by
  obtain ⟨p, l, e, R, s, m, args, below, meth, c, Q, A, D, k, g⟩ := x
  obtain ⟨⟨hx, hb, hml, hown, hts⟩, htb, hR, hA, hK, hlk, hE⟩ := C
  intro H locs ls hP hD hS hl
  exact lv_ladd hx hb (tb_at htb hi) (h H locs ls hP hD hS hl)

theorem x_land (C : Cx x cc tb nL own Ts rm) (i pc : Nat) {a b : Int64} (hi : tb[i]? = some (pc, .land, 1))  (h : Wx x nL ce sl ws lv (pc + 1) (.long (a &&& b) :: st)) : Wx x nL ce sl ws lv pc (.long b :: .long a :: st) := by
  obtain ⟨p, l, e, R, s, m, args, below, meth, c, Q, A, D, k, g⟩ := x
  obtain ⟨⟨hx, hb, hml, hown, hts⟩, htb, hR, hA, hK, hlk, hE⟩ := C
  intro H locs ls hP hD hS hl
  exact lv_land hx hb (tb_at htb hi) (h H locs ls hP hD hS hl)

theorem x_lor (C : Cx x cc tb nL own Ts rm) (i pc : Nat) {a b : Int64} (hi : tb[i]? = some (pc, .lor, 1))  (h : Wx x nL ce sl ws lv (pc + 1) (.long (a ||| b) :: st)) : Wx x nL ce sl ws lv pc (.long b :: .long a :: st) := by
  obtain ⟨p, l, e, R, s, m, args, below, meth, c, Q, A, D, k, g⟩ := x
  obtain ⟨⟨hx, hb, hml, hown, hts⟩, htb, hR, hA, hK, hlk, hE⟩ := C
  intro H locs ls hP hD hS hl
  exact lv_lor hx hb (tb_at htb hi) (h H locs ls hP hD hS hl)

theorem x_lshl (C : Cx x cc tb nL own Ts rm) (i pc : Nat) {a : Int64} {b : Int32} (hi : tb[i]? = some (pc, .lshl, 1))  (h : Wx x nL ce sl ws lv (pc + 1) (.long (a <<< (b.toInt64 &&& 63)) :: st)) : Wx x nL ce sl ws lv pc (.int b :: .long a :: st) := by
  obtain ⟨p, l, e, R, s, m, args, below, meth, c, Q, A, D, k, g⟩ := x
  obtain ⟨⟨hx, hb, hml, hown, hts⟩, htb, hR, hA, hK, hlk, hE⟩ := C
  intro H locs ls hP hD hS hl
  exact lv_lshl hx hb (tb_at htb hi) rfl (h H locs ls hP hD hS hl)

theorem x_lshr (C : Cx x cc tb nL own Ts rm) (i pc : Nat) {a : Int64} {b : Int32} (hi : tb[i]? = some (pc, .lshr, 1))  (h : Wx x nL ce sl ws lv (pc + 1) (.long (a >>> (b.toInt64 &&& 63)) :: st)) : Wx x nL ce sl ws lv pc (.int b :: .long a :: st) := by
  obtain ⟨p, l, e, R, s, m, args, below, meth, c, Q, A, D, k, g⟩ := x
  obtain ⟨⟨hx, hb, hml, hown, hts⟩, htb, hR, hA, hK, hlk, hE⟩ := C
  intro H locs ls hP hD hS hl
  exact lv_lshr hx hb (tb_at htb hi) rfl (h H locs ls hP hD hS hl)

theorem x_lushr (C : Cx x cc tb nL own Ts rm) (i pc : Nat) {a : Int64} {b : Int32} (hi : tb[i]? = some (pc, .lushr, 1))  (h : Wx x nL ce sl ws lv (pc + 1) (.long ((a.toUInt64 >>> (b.toInt64.toUInt64 &&& Int64.toUInt64 63)).toInt64) :: st)) : Wx x nL ce sl ws lv pc (.int b :: .long a :: st) := by
  obtain ⟨p, l, e, R, s, m, args, below, meth, c, Q, A, D, k, g⟩ := x
  obtain ⟨⟨hx, hb, hml, hown, hts⟩, htb, hR, hA, hK, hlk, hE⟩ := C
  intro H locs ls hP hD hS hl
  exact lv_lushr hx hb (tb_at htb hi) rfl (h H locs ls hP hD hS hl)

theorem x_lcmp (C : Cx x cc tb nL own Ts rm) (i pc : Nat) {a b : Int64} (hi : tb[i]? = some (pc, .lcmp, 1))  (h : Wx x nL ce sl ws lv (pc + 1) (.int (lg_cmp a b) :: st)) : Wx x nL ce sl ws lv pc (.long b :: .long a :: st) := by
  obtain ⟨p, l, e, R, s, m, args, below, meth, c, Q, A, D, k, g⟩ := x
  obtain ⟨⟨hx, hb, hml, hown, hts⟩, htb, hR, hA, hK, hlk, hE⟩ := C
  intro H locs ls hP hD hS hl
  exact W.lcmp hx hb (tb_at htb hi) (h H locs ls hP hD hS hl)

theorem x_iconst (C : Cx x cc tb nL own Ts rm) (i pc : Nat) {n : Int} {v : Int32} (hi : tb[i]? = some (pc, .iconst n, 1)) (hv : Int32.ofInt n = v) (h : Wx x nL ce sl ws lv (pc + 1) (.int v :: st)) : Wx x nL ce sl ws lv pc (st) := by
  obtain ⟨p, l, e, R, s, m, args, below, meth, c, Q, A, D, k, g⟩ := x
  obtain ⟨⟨hx, hb, hml, hown, hts⟩, htb, hR, hA, hK, hlk, hE⟩ := C
  intro H locs ls hP hD hS hl
  exact lv_iconst hx hb (tb_at htb hi) hv (h H locs ls hP hD hS hl)

theorem x_bipush (C : Cx x cc tb nL own Ts rm) (i pc : Nat) {n : Int} {v : Int32} (hi : tb[i]? = some (pc, .bipush n, 2)) (hv : (Int8.ofInt n).toInt32 = v) (h : Wx x nL ce sl ws lv (pc + 2) (.int v :: st)) : Wx x nL ce sl ws lv pc (st) := by
  obtain ⟨p, l, e, R, s, m, args, below, meth, c, Q, A, D, k, g⟩ := x
  obtain ⟨⟨hx, hb, hml, hown, hts⟩, htb, hR, hA, hK, hlk, hE⟩ := C
  intro H locs ls hP hD hS hl
  exact lv_bipush hx hb (tb_at htb hi) hv (h H locs ls hP hD hS hl)

theorem x_sipush (C : Cx x cc tb nL own Ts rm) (i pc : Nat) {n : Int} {v : Int32} (hi : tb[i]? = some (pc, .sipush n, 3)) (hv : (Int16.ofInt n).toInt32 = v) (h : Wx x nL ce sl ws lv (pc + 3) (.int v :: st)) : Wx x nL ce sl ws lv pc (st) := by
  obtain ⟨p, l, e, R, s, m, args, below, meth, c, Q, A, D, k, g⟩ := x
  obtain ⟨⟨hx, hb, hml, hown, hts⟩, htb, hR, hA, hK, hlk, hE⟩ := C
  intro H locs ls hP hD hS hl
  exact lv_sipush hx hb (tb_at htb hi) hv (h H locs ls hP hD hS hl)

theorem x_lconst (C : Cx x cc tb nL own Ts rm) (i pc : Nat) {n : Fin 2} {v : Int64} (hi : tb[i]? = some (pc, .lconst n, 1)) (hv : Int64.ofNat (n : Nat) = v) (h : Wx x nL ce sl ws lv (pc + 1) (.long v :: st)) : Wx x nL ce sl ws lv pc (st) := by
  obtain ⟨p, l, e, R, s, m, args, below, meth, c, Q, A, D, k, g⟩ := x
  obtain ⟨⟨hx, hb, hml, hown, hts⟩, htb, hR, hA, hK, hlk, hE⟩ := C
  intro H locs ls hP hD hS hl
  exact lv_lconst hx hb (tb_at htb hi) hv (h H locs ls hP hD hS hl)

theorem x_ldc (C : Cx x cc tb nL own Ts rm) (i pc : Nat) {index : Nat} {v : Int32} (hi : tb[i]? = some (pc, .ldc index, 2)) (hc : Cond.constant own index v ∈ Ts) (h : Wx x nL ce sl ws lv (pc + 2) (.int v :: st)) : Wx x nL ce sl ws lv pc (st) := by
  obtain ⟨p, l, e, R, s, m, args, below, meth, c, Q, A, D, k, g⟩ := x
  obtain ⟨⟨hx, hb, hml, hown, hts⟩, htb, hR, hA, hK, hlk, hE⟩ := C
  intro H locs ls hP hD hS hl
  exact lv_ldc hx hb hown (hts _ hc) (tb_at htb hi) (h H locs ls hP hD hS hl)

theorem x_ldc_w (C : Cx x cc tb nL own Ts rm) (i pc : Nat) {index : Nat} {v : Int32} (hi : tb[i]? = some (pc, .ldc_w index, 3)) (hc : Cond.constant own index v ∈ Ts) (h : Wx x nL ce sl ws lv (pc + 3) (.int v :: st)) : Wx x nL ce sl ws lv pc (st) := by
  obtain ⟨p, l, e, R, s, m, args, below, meth, c, Q, A, D, k, g⟩ := x
  obtain ⟨⟨hx, hb, hml, hown, hts⟩, htb, hR, hA, hK, hlk, hE⟩ := C
  intro H locs ls hP hD hS hl
  exact lv_ldcw hx hb hown (hts _ hc) (tb_at htb hi) (h H locs ls hP hD hS hl)

theorem x_ldc2 (C : Cx x cc tb nL own Ts rm) (i pc : Nat) {index : Nat} {v : Int64} (hi : tb[i]? = some (pc, .ldc2_w index, 3)) (hc : Cond.constantLong own index v ∈ Ts) (h : Wx x nL ce sl ws lv (pc + 3) (.long v :: st)) : Wx x nL ce sl ws lv pc (st) := by
  obtain ⟨p, l, e, R, s, m, args, below, meth, c, Q, A, D, k, g⟩ := x
  obtain ⟨⟨hx, hb, hml, hown, hts⟩, htb, hR, hA, hK, hlk, hE⟩ := C
  intro H locs ls hP hD hS hl
  exact lv_ldc2 hx hb hown (hts _ hc) (tb_at htb hi) (h H locs ls hP hD hS hl)

theorem x_iload_n (C : Cx x cc tb nL own Ts rm) (i pc : Nat) {k : Fin 4} {j : Nat} {v : Int32} (hi : tb[i]? = some (pc, .iload_n k, 1)) (q : Nat) (hj : (k : Nat) = j) (hq : lv[q]? = some (j, .int v)) (h : Wx x nL ce sl ws lv (pc + 1) (.int v :: st)) : Wx x nL ce sl ws lv pc (st) := by
  obtain ⟨p, l, e, R, s, m, args, below, meth, c, Q, A, D, k, g⟩ := x
  obtain ⟨⟨hx, hb, hml, hown, hts⟩, htb, hR, hA, hK, hlk, hE⟩ := C
  intro H locs ls hP hD hS hl
  exact lv_iload_n hx hb (tb_at htb hi) hj (lv_at hl q hq) (h H locs ls hP hD hS hl)

theorem x_iload (C : Cx x cc tb nL own Ts rm) (i pc : Nat) {j : Nat} {v : Int32} (hi : tb[i]? = some (pc, .iload j, 2)) (q : Nat) (hq : lv[q]? = some (j, .int v)) (h : Wx x nL ce sl ws lv (pc + 2) (.int v :: st)) : Wx x nL ce sl ws lv pc (st) := by
  obtain ⟨p, l, e, R, s, m, args, below, meth, c, Q, A, D, k, g⟩ := x
  obtain ⟨⟨hx, hb, hml, hown, hts⟩, htb, hR, hA, hK, hlk, hE⟩ := C
  intro H locs ls hP hD hS hl
  exact lv_iload hx hb (tb_at htb hi) (lv_at hl q hq) (h H locs ls hP hD hS hl)

theorem x_lload_n (C : Cx x cc tb nL own Ts rm) (i pc : Nat) {k : Fin 4} {j : Nat} {v : Int64} (hi : tb[i]? = some (pc, .lload_n k, 1)) (q : Nat) (hj : (k : Nat) = j) (hq : lv[q]? = some (j, .long v)) (h : Wx x nL ce sl ws lv (pc + 1) (.long v :: st)) : Wx x nL ce sl ws lv pc (st) := by
  obtain ⟨p, l, e, R, s, m, args, below, meth, c, Q, A, D, k, g⟩ := x
  obtain ⟨⟨hx, hb, hml, hown, hts⟩, htb, hR, hA, hK, hlk, hE⟩ := C
  intro H locs ls hP hD hS hl
  exact lv_lload_n hx hb (tb_at htb hi) hj (lv_at hl q hq) (h H locs ls hP hD hS hl)

theorem x_lload (C : Cx x cc tb nL own Ts rm) (i pc : Nat) {j : Nat} {v : Int64} (hi : tb[i]? = some (pc, .lload j, 2)) (q : Nat) (hq : lv[q]? = some (j, .long v)) (h : Wx x nL ce sl ws lv (pc + 2) (.long v :: st)) : Wx x nL ce sl ws lv pc (st) := by
  obtain ⟨p, l, e, R, s, m, args, below, meth, c, Q, A, D, k, g⟩ := x
  obtain ⟨⟨hx, hb, hml, hown, hts⟩, htb, hR, hA, hK, hlk, hE⟩ := C
  intro H locs ls hP hD hS hl
  exact lv_lload hx hb (tb_at htb hi) (lv_at hl q hq) (h H locs ls hP hD hS hl)

theorem x_aload_n (C : Cx x cc tb nL own Ts rm) (i pc : Nat) {k : Fin 4} {j : Nat} {v : Nat} (hi : tb[i]? = some (pc, .aload_n k, 1)) (q : Nat) (hj : (k : Nat) = j) (hq : lv[q]? = some (j, .ref v)) (h : Wx x nL ce sl ws lv (pc + 1) (.ref v :: st)) : Wx x nL ce sl ws lv pc (st) := by
  obtain ⟨p, l, e, R, s, m, args, below, meth, c, Q, A, D, k, g⟩ := x
  obtain ⟨⟨hx, hb, hml, hown, hts⟩, htb, hR, hA, hK, hlk, hE⟩ := C
  intro H locs ls hP hD hS hl
  exact lv_aload_n hx hb (tb_at htb hi) hj (lv_at hl q hq) (h H locs ls hP hD hS hl)

theorem x_aload (C : Cx x cc tb nL own Ts rm) (i pc : Nat) {j : Nat} {v : Nat} (hi : tb[i]? = some (pc, .aload j, 2)) (q : Nat) (hq : lv[q]? = some (j, .ref v)) (h : Wx x nL ce sl ws lv (pc + 2) (.ref v :: st)) : Wx x nL ce sl ws lv pc (st) := by
  obtain ⟨p, l, e, R, s, m, args, below, meth, c, Q, A, D, k, g⟩ := x
  obtain ⟨⟨hx, hb, hml, hown, hts⟩, htb, hR, hA, hK, hlk, hE⟩ := C
  intro H locs ls hP hD hS hl
  exact lv_aload hx hb (tb_at htb hi) (lv_at hl q hq) (h H locs ls hP hD hS hl)

theorem x_istore_n (C : Cx x cc tb nL own Ts rm) (i pc : Nat) {k : Fin 4} {j : Nat} {v : Int32} {lv' : List (Nat × Value)} (hi : tb[i]? = some (pc, .istore_n k, 1)) (hj : (k : Nat) = j) (hn : j < nL) (ks : List Nat) (hl' : lv_pick ((j, Value.int v) :: lv.filter (fun q => !(q.1 == j) && !(q.1 + 1 == j && q.2.category == 2))) ks = lv') (h : Wx x nL ce sl ws lv' (pc + 1) st) : Wx x nL ce sl ws lv pc (.int v :: st) := by
  obtain ⟨p, l, e, R, s, m, args, below, meth, c, Q, A, D, k, g⟩ := x
  obtain ⟨⟨hx, hb, hml, hown, hts⟩, htb, hR, hA, hK, hlk, hE⟩ := C
  intro H locs ls hP hD hS hl
  exact lv_istore_n hx hb (tb_at htb hi) hj hl hn rfl (fun ls2 h2 => h H locs ls2 hP hD hS (lv_sub h2 ks hl'))
theorem x_istore (C : Cx x cc tb nL own Ts rm) (i pc : Nat) {j : Nat} {v : Int32} {lv' : List (Nat × Value)} (hi : tb[i]? = some (pc, .istore j, 2)) (hn : j < nL) (ks : List Nat) (hl' : lv_pick ((j, Value.int v) :: lv.filter (fun q => !(q.1 == j) && !(q.1 + 1 == j && q.2.category == 2))) ks = lv') (h : Wx x nL ce sl ws lv' (pc + 2) st) : Wx x nL ce sl ws lv pc (.int v :: st) := by
  obtain ⟨p, l, e, R, s, m, args, below, meth, c, Q, A, D, k, g⟩ := x
  obtain ⟨⟨hx, hb, hml, hown, hts⟩, htb, hR, hA, hK, hlk, hE⟩ := C
  intro H locs ls hP hD hS hl
  exact lv_istore hx hb (tb_at htb hi) hl hn rfl (fun ls2 h2 => h H locs ls2 hP hD hS (lv_sub h2 ks hl'))
theorem x_iinc (C : Cx x cc tb nL own Ts rm) (i pc : Nat) {j : Nat} {n : Int} {a v : Int32} {lv' : List (Nat × Value)} (hi : tb[i]? = some (pc, .iinc j n, 3)) (q : Nat) (hq : lv[q]? = some (j, .int a)) (hv : a + Int32.ofInt n = v) (hn : j < nL) (ks : List Nat) (hl' : lv_pick ((j, Value.int v) :: lv.filter (fun q => !(q.1 == j) && !(q.1 + 1 == j && q.2.category == 2))) ks = lv') (h : Wx x nL ce sl ws lv' (pc + 3) st) : Wx x nL ce sl ws lv pc st := by
  obtain ⟨p, l, e, R, s, m, args, below, meth, c, Q, A, D, k, g⟩ := x
  obtain ⟨⟨hx, hb, hml, hown, hts⟩, htb, hR, hA, hK, hlk, hE⟩ := C
  intro H locs ls hP hD hS hl
  exact lv_iinc hx hb (tb_at htb hi) hl hq hv hn rfl (fun ls2 h2 => h H locs ls2 hP hD hS (lv_sub h2 ks hl'))
theorem x_goto (C : Cx x cc tb nL own Ts rm) (i pc tgt : Nat) {off : Int} (hi : tb[i]? = some (pc, .goto off, 3)) (ht : (pc : Int) + off = (tgt : Int)) (h : Wx x nL ce sl ws lv tgt st) : Wx x nL ce sl ws lv pc st := by
  obtain ⟨p, l, e, R, s, m, args, below, meth, c, Q, A, D, k, g⟩ := x
  obtain ⟨⟨hx, hb, hml, hown, hts⟩, htb, hR, hA, hK, hlk, hE⟩ := C
  intro H locs ls hP hD hS hl
  exact lv_goto hx hb (tb_at htb hi) ht (h H locs ls hP hD hS hl)

theorem x_dup (C : Cx x cc tb nL own Ts rm) (i pc : Nat) {v : Value} (hi : tb[i]? = some (pc, .dup, 1)) (hv : v.category = 1) (h : Wx x nL ce sl ws lv (pc + 1) (v :: v :: st)) : Wx x nL ce sl ws lv pc (v :: st) := by
  obtain ⟨p, l, e, R, s, m, args, below, meth, c, Q, A, D, k, g⟩ := x
  obtain ⟨⟨hx, hb, hml, hown, hts⟩, htb, hR, hA, hK, hlk, hE⟩ := C
  intro H locs ls hP hD hS hl
  exact lv_dup hx hb (tb_at htb hi) hv (h H locs ls hP hD hS hl)

theorem x_dup2 (C : Cx x cc tb nL own Ts rm) (i pc : Nat) {v w : Value} (hi : tb[i]? = some (pc, .dup2, 1)) (hv : v.category = 1) (hw : w.category = 1) (h : Wx x nL ce sl ws lv (pc + 1) (v :: w :: v :: w :: st)) : Wx x nL ce sl ws lv pc (v :: w :: st) := by
  obtain ⟨p, l, e, R, s, m, args, below, meth, c, Q, A, D, k, g⟩ := x
  obtain ⟨⟨hx, hb, hml, hown, hts⟩, htb, hR, hA, hK, hlk, hE⟩ := C
  intro H locs ls hP hD hS hl
  exact lv_dup2_11 hx hb (tb_at htb hi) hv hw (h H locs ls hP hD hS hl)

theorem x_pop (C : Cx x cc tb nL own Ts rm) (i pc : Nat) {v : Value} (hi : tb[i]? = some (pc, .pop, 1)) (hv : v.category = 1) (h : Wx x nL ce sl ws lv (pc + 1) (st)) : Wx x nL ce sl ws lv pc (v :: st) := by
  obtain ⟨p, l, e, R, s, m, args, below, meth, c, Q, A, D, k, g⟩ := x
  obtain ⟨⟨hx, hb, hml, hown, hts⟩, htb, hR, hA, hK, hlk, hE⟩ := C
  intro H locs ls hP hD hS hl
  exact lv_pop hx hb (tb_at htb hi) hv (h H locs ls hP hD hS hl)

theorem x_if_eq (C : Cx x cc tb nL own Ts rm) (i pc tgt : Nat) {a : Int32} {off : Int} (hi : tb[i]? = some (pc, .ifCond .eq off, 3)) (ht : (pc : Int) + off = (tgt : Int)) (kt : a = 0 → Wx x nL ce sl ws lv tgt st) (kf : ¬ a = 0 → Wx x nL ce sl ws lv (pc + 3) st) : Wx x nL ce sl ws lv pc (.int a :: st) := by
  obtain ⟨p, l, e, R, s, m, args, below, meth, c, Q, A, D, k, g⟩ := x
  obtain ⟨⟨hx, hb, hml, hown, hts⟩, htb, hR, hA, hK, hlk, hE⟩ := C
  intro H locs ls hP hD hS hl
  exact lv_if_eq hx hb (tb_at htb hi) ht (fun q => kt q H locs ls hP hD hS hl) (fun q => kf q H locs ls hP hD hS hl)

theorem x_if_ne (C : Cx x cc tb nL own Ts rm) (i pc tgt : Nat) {a : Int32} {off : Int} (hi : tb[i]? = some (pc, .ifCond .ne off, 3)) (ht : (pc : Int) + off = (tgt : Int)) (kt : ¬ a = 0 → Wx x nL ce sl ws lv tgt st) (kf : a = 0 → Wx x nL ce sl ws lv (pc + 3) st) : Wx x nL ce sl ws lv pc (.int a :: st) := by
  obtain ⟨p, l, e, R, s, m, args, below, meth, c, Q, A, D, k, g⟩ := x
  obtain ⟨⟨hx, hb, hml, hown, hts⟩, htb, hR, hA, hK, hlk, hE⟩ := C
  intro H locs ls hP hD hS hl
  exact lv_if_ne hx hb (tb_at htb hi) ht (fun q => kt q H locs ls hP hD hS hl) (fun q => kf q H locs ls hP hD hS hl)

theorem x_if_lt (C : Cx x cc tb nL own Ts rm) (i pc tgt : Nat) {a : Int32} {off : Int} (hi : tb[i]? = some (pc, .ifCond .lt off, 3)) (ht : (pc : Int) + off = (tgt : Int)) (kt : a < 0 → Wx x nL ce sl ws lv tgt st) (kf : ¬ a < 0 → Wx x nL ce sl ws lv (pc + 3) st) : Wx x nL ce sl ws lv pc (.int a :: st) := by
  obtain ⟨p, l, e, R, s, m, args, below, meth, c, Q, A, D, k, g⟩ := x
  obtain ⟨⟨hx, hb, hml, hown, hts⟩, htb, hR, hA, hK, hlk, hE⟩ := C
  intro H locs ls hP hD hS hl
  exact lv_if_lt hx hb (tb_at htb hi) ht (fun q => kt q H locs ls hP hD hS hl) (fun q => kf q H locs ls hP hD hS hl)

theorem x_if_ge (C : Cx x cc tb nL own Ts rm) (i pc tgt : Nat) {a : Int32} {off : Int} (hi : tb[i]? = some (pc, .ifCond .ge off, 3)) (ht : (pc : Int) + off = (tgt : Int)) (kt : 0 ≤ a → Wx x nL ce sl ws lv tgt st) (kf : ¬ 0 ≤ a → Wx x nL ce sl ws lv (pc + 3) st) : Wx x nL ce sl ws lv pc (.int a :: st) := by
  obtain ⟨p, l, e, R, s, m, args, below, meth, c, Q, A, D, k, g⟩ := x
  obtain ⟨⟨hx, hb, hml, hown, hts⟩, htb, hR, hA, hK, hlk, hE⟩ := C
  intro H locs ls hP hD hS hl
  exact lv_if_ge hx hb (tb_at htb hi) ht (fun q => kt q H locs ls hP hD hS hl) (fun q => kf q H locs ls hP hD hS hl)

theorem x_if_gt (C : Cx x cc tb nL own Ts rm) (i pc tgt : Nat) {a : Int32} {off : Int} (hi : tb[i]? = some (pc, .ifCond .gt off, 3)) (ht : (pc : Int) + off = (tgt : Int)) (kt : 0 < a → Wx x nL ce sl ws lv tgt st) (kf : ¬ 0 < a → Wx x nL ce sl ws lv (pc + 3) st) : Wx x nL ce sl ws lv pc (.int a :: st) := by
  obtain ⟨p, l, e, R, s, m, args, below, meth, c, Q, A, D, k, g⟩ := x
  obtain ⟨⟨hx, hb, hml, hown, hts⟩, htb, hR, hA, hK, hlk, hE⟩ := C
  intro H locs ls hP hD hS hl
  exact lv_if_gt hx hb (tb_at htb hi) ht (fun q => kt q H locs ls hP hD hS hl) (fun q => kf q H locs ls hP hD hS hl)

theorem x_if_le (C : Cx x cc tb nL own Ts rm) (i pc tgt : Nat) {a : Int32} {off : Int} (hi : tb[i]? = some (pc, .ifCond .le off, 3)) (ht : (pc : Int) + off = (tgt : Int)) (kt : a ≤ 0 → Wx x nL ce sl ws lv tgt st) (kf : ¬ a ≤ 0 → Wx x nL ce sl ws lv (pc + 3) st) : Wx x nL ce sl ws lv pc (.int a :: st) := by
  obtain ⟨p, l, e, R, s, m, args, below, meth, c, Q, A, D, k, g⟩ := x
  obtain ⟨⟨hx, hb, hml, hown, hts⟩, htb, hR, hA, hK, hlk, hE⟩ := C
  intro H locs ls hP hD hS hl
  exact lv_if_le hx hb (tb_at htb hi) ht (fun q => kt q H locs ls hP hD hS hl) (fun q => kf q H locs ls hP hD hS hl)

theorem x_icmp_eq (C : Cx x cc tb nL own Ts rm) (i pc tgt : Nat) {a b : Int32} {off : Int} (hi : tb[i]? = some (pc, .if_icmp .eq off, 3)) (ht : (pc : Int) + off = (tgt : Int)) (kt : a = b → Wx x nL ce sl ws lv tgt st) (kf : ¬ a = b → Wx x nL ce sl ws lv (pc + 3) st) : Wx x nL ce sl ws lv pc (.int b :: .int a :: st) := by
  obtain ⟨p, l, e, R, s, m, args, below, meth, c, Q, A, D, k, g⟩ := x
  obtain ⟨⟨hx, hb, hml, hown, hts⟩, htb, hR, hA, hK, hlk, hE⟩ := C
  intro H locs ls hP hD hS hl
  exact lv_icmp_eq hx hb (tb_at htb hi) ht (fun q => kt q H locs ls hP hD hS hl) (fun q => kf q H locs ls hP hD hS hl)

theorem x_icmp_ne (C : Cx x cc tb nL own Ts rm) (i pc tgt : Nat) {a b : Int32} {off : Int} (hi : tb[i]? = some (pc, .if_icmp .ne off, 3)) (ht : (pc : Int) + off = (tgt : Int)) (kt : ¬ a = b → Wx x nL ce sl ws lv tgt st) (kf : a = b → Wx x nL ce sl ws lv (pc + 3) st) : Wx x nL ce sl ws lv pc (.int b :: .int a :: st) := by
  obtain ⟨p, l, e, R, s, m, args, below, meth, c, Q, A, D, k, g⟩ := x
  obtain ⟨⟨hx, hb, hml, hown, hts⟩, htb, hR, hA, hK, hlk, hE⟩ := C
  intro H locs ls hP hD hS hl
  exact lv_icmp_ne hx hb (tb_at htb hi) ht (fun q => kt q H locs ls hP hD hS hl) (fun q => kf q H locs ls hP hD hS hl)

theorem x_icmp_lt (C : Cx x cc tb nL own Ts rm) (i pc tgt : Nat) {a b : Int32} {off : Int} (hi : tb[i]? = some (pc, .if_icmp .lt off, 3)) (ht : (pc : Int) + off = (tgt : Int)) (kt : a < b → Wx x nL ce sl ws lv tgt st) (kf : ¬ a < b → Wx x nL ce sl ws lv (pc + 3) st) : Wx x nL ce sl ws lv pc (.int b :: .int a :: st) := by
  obtain ⟨p, l, e, R, s, m, args, below, meth, c, Q, A, D, k, g⟩ := x
  obtain ⟨⟨hx, hb, hml, hown, hts⟩, htb, hR, hA, hK, hlk, hE⟩ := C
  intro H locs ls hP hD hS hl
  exact lv_icmp_lt hx hb (tb_at htb hi) ht (fun q => kt q H locs ls hP hD hS hl) (fun q => kf q H locs ls hP hD hS hl)

theorem x_icmp_ge (C : Cx x cc tb nL own Ts rm) (i pc tgt : Nat) {a b : Int32} {off : Int} (hi : tb[i]? = some (pc, .if_icmp .ge off, 3)) (ht : (pc : Int) + off = (tgt : Int)) (kt : b ≤ a → Wx x nL ce sl ws lv tgt st) (kf : ¬ b ≤ a → Wx x nL ce sl ws lv (pc + 3) st) : Wx x nL ce sl ws lv pc (.int b :: .int a :: st) := by
  obtain ⟨p, l, e, R, s, m, args, below, meth, c, Q, A, D, k, g⟩ := x
  obtain ⟨⟨hx, hb, hml, hown, hts⟩, htb, hR, hA, hK, hlk, hE⟩ := C
  intro H locs ls hP hD hS hl
  exact lv_icmp_ge hx hb (tb_at htb hi) ht (fun q => kt q H locs ls hP hD hS hl) (fun q => kf q H locs ls hP hD hS hl)

theorem x_icmp_gt (C : Cx x cc tb nL own Ts rm) (i pc tgt : Nat) {a b : Int32} {off : Int} (hi : tb[i]? = some (pc, .if_icmp .gt off, 3)) (ht : (pc : Int) + off = (tgt : Int)) (kt : b < a → Wx x nL ce sl ws lv tgt st) (kf : ¬ b < a → Wx x nL ce sl ws lv (pc + 3) st) : Wx x nL ce sl ws lv pc (.int b :: .int a :: st) := by
  obtain ⟨p, l, e, R, s, m, args, below, meth, c, Q, A, D, k, g⟩ := x
  obtain ⟨⟨hx, hb, hml, hown, hts⟩, htb, hR, hA, hK, hlk, hE⟩ := C
  intro H locs ls hP hD hS hl
  exact lv_icmp_gt hx hb (tb_at htb hi) ht (fun q => kt q H locs ls hP hD hS hl) (fun q => kf q H locs ls hP hD hS hl)

theorem x_icmp_le (C : Cx x cc tb nL own Ts rm) (i pc tgt : Nat) {a b : Int32} {off : Int} (hi : tb[i]? = some (pc, .if_icmp .le off, 3)) (ht : (pc : Int) + off = (tgt : Int)) (kt : a ≤ b → Wx x nL ce sl ws lv tgt st) (kf : ¬ a ≤ b → Wx x nL ce sl ws lv (pc + 3) st) : Wx x nL ce sl ws lv pc (.int b :: .int a :: st) := by
  obtain ⟨p, l, e, R, s, m, args, below, meth, c, Q, A, D, k, g⟩ := x
  obtain ⟨⟨hx, hb, hml, hown, hts⟩, htb, hR, hA, hK, hlk, hE⟩ := C
  intro H locs ls hP hD hS hl
  exact lv_icmp_le hx hb (tb_at htb hi) ht (fun q => kt q H locs ls hP hD hS hl) (fun q => kf q H locs ls hP hD hS hl)

theorem x_tabIn (C : Cx x cc tb nL own Ts rm) (i pc tgt j : Nat) {dflt lo hi' : Int} {offs : Array Int} {len : Nat} {a : Int32} {off : Int} (hi : tb[i]? = some (pc, .tableswitch dflt lo hi' offs, len)) (v : Int32) (ha : a = v) (hv : v.toInt = lo + j) (hj : lo + j ≤ hi') (ho : offs[j]? = some off) (ht : (pc : Int) + off = (tgt : Int)) (h : Wx x nL ce sl ws lv tgt st) : Wx x nL ce sl ws lv pc (.int a :: st) := by
  obtain ⟨p, l, e, R, s, m, args, below, meth, c, Q, A, D, k, g⟩ := x
  obtain ⟨⟨hx, hb, hml, hown, hts⟩, htb, hR, hA, hK, hlk, hE⟩ := C
  intro H locs ls hP hD hS hl
  subst ha
  refine lv_tableIn hx hb (tb_at htb hi) (by omega) (by omega) (off := off) ?_ ht (h H locs ls hP hD hS hl)
  rw [hv, show (lo + (j : Int) - lo).toNat = j by omega]
  exact ho
theorem x_tabOut (C : Cx x cc tb nL own Ts rm) (i pc tgt : Nat) {dflt lo hi' : Int} {offs : Array Int} {len : Nat} {a : Int32} (hi : tb[i]? = some (pc, .tableswitch dflt lo hi' offs, len)) (ha : a.toInt < lo ∨ hi' < a.toInt) (ht : (pc : Int) + dflt = (tgt : Int)) (h : Wx x nL ce sl ws lv tgt st) : Wx x nL ce sl ws lv pc (.int a :: st) := by
  obtain ⟨p, l, e, R, s, m, args, below, meth, c, Q, A, D, k, g⟩ := x
  obtain ⟨⟨hx, hb, hml, hown, hts⟩, htb, hR, hA, hK, hlk, hE⟩ := C
  intro H locs ls hP hD hS hl
  exact lv_tableOut hx hb (tb_at htb hi) ha ht (h H locs ls hP hD hS hl)
theorem x_get (C : Cx x cc tb nL own Ts rm) (i pc : Nat) {index ci N a : Nat} {Cn : String} {T : u_T} {fs : List Value} {v : Value} (hi : tb[i]? = some (pc, .getfield index, 3)) (hin : ∀ w ∈ u_ws Cn T N, w ∈ Ts) (q0 : Nat) (he : ws[q0]? = some (a, .inr (ci, fs))) (hc : vwCl[ci]? = some (Cn, T, N)) (f : Nat) (hf : f < N) (hlink : Cond.fieldLink own index (T f).1 (T f).2.1 (T f).2.2.1 ∈ Ts) (hv : fs[f]? = some v) (h : Wx x nL ce sl ws lv (pc + 3) (v :: st)) : Wx x nL ce sl ws lv pc (.ref a :: st) := by
  obtain ⟨p, l, e, R, s, m, args, below, meth, c, Q, A, D, k, g⟩ := x
  obtain ⟨⟨hx, hb, hml, hown, hts⟩, htb, hR, hA, hK, hlk, hE⟩ := C
  intro H locs ls hP hD hS hl
  exact va_get hx hb hts hin hown hK hP q0 he hc f hf (hts _ hlink) (fun _ h9 => h9) hv (tb_at htb hi) (h H locs ls hP hD hS hl)
theorem x_put (C : Cx x cc tb nL own Ts rm) (i pc : Nat) {index ci N a : Nat} {Cn : String} {T : u_T} {fs : List Value} {v : Value} {ws' : va_W} (hi : tb[i]? = some (pc, .putfield index, 3)) (hin : ∀ w ∈ u_ws Cn T N, w ∈ Ts) (ty0 : Nat → FieldType) (hty : ∀ k, k < N → parseFieldDescriptor (T k).2.2.1 = some (ty0 k)) (hnm : ∀ a, a < N → ∀ b, b < N → a ≠ b → (T a).2.1 ≠ (T b).2.1) (q0 : Nat) (he : ws[q0]? = some (a, .inr (ci, fs))) (hc : vwCl[ci]? = some (Cn, T, N)) (f : Nat) (hf : f < N) (hlink : Cond.fieldLink own index (T f).1 (T f).2.1 (T f).2.2.1 ∈ Ts) (hfin : (T f).2.2.2 = false) (hn : narrow (ty0 f) v = v) (hfit : fits (ty0 f) v = true) (hl0 : f < fs.length) (hw : ws.set q0 (a, .inr (ci, fs.set f v)) = ws') (h : Wx x nL ce sl ws' lv (pc + 3) st) : Wx x nL ce sl ws lv pc (v :: .ref a :: st) := by
  obtain ⟨p, l, e, R, s, m, args, below, meth, c, Q, A, D, k, g⟩ := x
  obtain ⟨⟨hx, hb, hml, hown, hts⟩, htb, hR, hA, hK, hlk, hE⟩ := C
  intro H locs ls hP hD hS hl
  exact va_put hx hb hts hin ty0 hty hnm hown hK hP hD hS q0 he hc f hf (hts _ hlink) (fun _ h9 => h9) hfin (hty f hf) hn hfit hl0 (tb_at htb hi) (fun H1 locs1 hP1 hD1 hS1 => h H1 locs1 ls (hw ▸ hP1) (hw ▸ hD1) hS1 hl)
theorem x_iald (C : Cx x cc tb nL own Ts rm) (i pc : Nat) {a n : Nat} {f : Nat → Int32} {j : Int32} (hi : tb[i]? = some (pc, .iaload, 1)) (q0 : Nat) (ha : ws[q0]? = some (a, .inl ((xk x).1, n, .inl f))) (hin : vp_in j n) (h : Wx x nL ce sl ws lv (pc + 1) (.int (f j.toNatClampNeg) :: st)) : Wx x nL ce sl ws lv pc (.int j :: .ref a :: st) := by
  obtain ⟨p, l, e, R, s, m, args, below, meth, c, Q, A, D, k, g⟩ := x
  obtain ⟨⟨hx, hb, hml, hown, hts⟩, htb, hR, hA, hK, hlk, hE⟩ := C
  intro H locs ls hP hD hS hl
  exact va_iald hx hb hK hP q0 0 ha rfl hin (tb_at htb hi) (h H locs ls hP hD hS hl)
theorem x_iast (C : Cx x cc tb nL own Ts rm) (i pc : Nat) {a n : Nat} {f : Nat → Int32} {j v : Int32} {ws' : va_W} (hi : tb[i]? = some (pc, .iastore, 1)) (q0 : Nat) (ha : ws[q0]? = some (a, .inl ((xk x).1, n, .inl f))) (hin : vp_in j n) (hw : ws.set q0 (a, .inl ((xk x).1, n, .inl (upd f j.toNatClampNeg v))) = ws') (h : Wx x nL ce sl ws' lv (pc + 1) st) : Wx x nL ce sl ws lv pc (.int v :: .int j :: .ref a :: st) := by
  obtain ⟨p, l, e, R, s, m, args, below, meth, c, Q, A, D, k, g⟩ := x
  obtain ⟨⟨hx, hb, hml, hown, hts⟩, htb, hR, hA, hK, hlk, hE⟩ := C
  intro H locs ls hP hD hS hl
  exact va_iast hx hb hK hP hD hS q0 0 ha rfl hin (tb_at htb hi) (fun H1 locs1 hP1 hD1 hS1 => h H1 locs1 ls (hw ▸ hP1) (hw ▸ hD1) hS1 hl)
theorem x_zald (C : Cx x cc tb nL own Ts rm) (i pc : Nat) {a n : Nat} {f : Nat → Int32} {j : Int32} (hi : tb[i]? = some (pc, .baload, 1)) (q0 : Nat) (ha : ws[q0]? = some (a, .inl ((xk x).2, n, .inl f))) (hin : vp_in j n) (h : Wx x nL ce sl ws lv (pc + 1) (.int (f j.toNatClampNeg) :: st)) : Wx x nL ce sl ws lv pc (.int j :: .ref a :: st) := by
  obtain ⟨p, l, e, R, s, m, args, below, meth, c, Q, A, D, k, g⟩ := x
  obtain ⟨⟨hx, hb, hml, hown, hts⟩, htb, hR, hA, hK, hlk, hE⟩ := C
  intro H locs ls hP hD hS hl
  exact va_zald hx hb hK hP q0 1 ha rfl hin (tb_at htb hi) (h H locs ls hP hD hS hl)
theorem x_zast (C : Cx x cc tb nL own Ts rm) (i pc : Nat) {a n : Nat} {f : Nat → Int32} {j v : Int32} {ws' : va_W} (hi : tb[i]? = some (pc, .bastore, 1)) (q0 : Nat) (ha : ws[q0]? = some (a, .inl ((xk x).2, n, .inl f))) (hin : vp_in j n) (hz : zb v) (hw : ws.set q0 (a, .inl ((xk x).2, n, .inl (upd f j.toNatClampNeg v))) = ws') (h : Wx x nL ce sl ws' lv (pc + 1) st) : Wx x nL ce sl ws lv pc (.int v :: .int j :: .ref a :: st) := by
  obtain ⟨p, l, e, R, s, m, args, below, meth, c, Q, A, D, k, g⟩ := x
  obtain ⟨⟨hx, hb, hml, hown, hts⟩, htb, hR, hA, hK, hlk, hE⟩ := C
  intro H locs ls hP hD hS hl
  exact va_zast hx hb hK hP hD hS q0 1 ha rfl hin (tb_at htb hi) (fun H1 locs1 hP1 hD1 hS1 => by rw [zb_v hz] at hP1 hD1; exact h H1 locs1 ls (hw ▸ hP1) (hw ▸ hD1) hS1 hl)
theorem x_alen (C : Cx x cc tb nL own Ts rm) (i pc : Nat) {a n : Nat} {f : Nat → Int32} {v : Int32} (hi : tb[i]? = some (pc, .arraylength, 1)) (q0 : Nat) (ha : ws[q0]? = some (a, .inl ((xk x).1, n, .inl f))) (hv : Int32.ofNat n = v) (h : Wx x nL ce sl ws lv (pc + 1) (.int v :: st)) : Wx x nL ce sl ws lv pc (.ref a :: st) := by
  obtain ⟨p, l, e, R, s, m, args, below, meth, c, Q, A, D, k, g⟩ := x
  obtain ⟨⟨hx, hb, hml, hown, hts⟩, htb, hR, hA, hK, hlk, hE⟩ := C
  intro H locs ls hP hD hS hl
  exact va_alen hx hb hK hP q0 0 ha (ty := .int) rfl hv (tb_at htb hi) (h H locs ls hP hD hS hl)
theorem x_gets0 (C : Cx x cc tb nL own Ts rm) (i pc : Nat) {index : Nat} (hi : tb[i]? = some (pc, .getstatic index, 3)) (hlink : Cond.fieldLink own index "ShrinkingCalls" "ORDERS" "[I" ∈ Ts) (h : Wx x nL ce sl ws lv (pc + 3) (.ref (xg x 0) :: st)) : Wx x nL ce sl ws lv pc st := by
  obtain ⟨p, l, e, R, s, m, args, below, meth, c, Q, A, D, k, g⟩ := x
  obtain ⟨⟨hx, hb, hml, hown, hts⟩, htb, hR, hA, hK, hlk, hE⟩ := C
  intro H locs ls hP hD hS hl
  exact va_gets hx hb hE.1.1 hS hown (hts _ hlink) (fun _ h9 => h9) (tb_at htb hi) (h H locs ls hP hD hS hl)
theorem x_gets1 (C : Cx x cc tb nL own Ts rm) (i pc : Nat) {index : Nat} (hi : tb[i]? = some (pc, .getstatic index, 3)) (hlink : Cond.fieldLink own index "ShrinkingCalls$Closure" "GAPS" "[I" ∈ Ts) (h : Wx x nL ce sl ws lv (pc + 3) (.ref (xg x 1) :: st)) : Wx x nL ce sl ws lv pc st := by
  obtain ⟨p, l, e, R, s, m, args, below, meth, c, Q, A, D, k, g⟩ := x
  obtain ⟨⟨hx, hb, hml, hown, hts⟩, htb, hR, hA, hK, hlk, hE⟩ := C
  intro H locs ls hP hD hS hl
  exact va_gets hx hb hE.2.1.1 hS hown (hts _ hlink) (fun _ h9 => h9) (tb_at htb hi) (h H locs ls hP hD hS hl)
theorem x_tld0 (C : Cx x cc tb nL own Ts rm) (i pc : Nat) {j : Int32} (hi : tb[i]? = some (pc, .iaload, 1)) (hin : vp_in j 16) (h : Wx x nL ce sl ws lv (pc + 1) (.int (ORD j.toNatClampNeg) :: st)) : Wx x nL ce sl ws lv pc (.int j :: .ref (xg x 0) :: st) := by
  obtain ⟨p, l, e, R, s, m, args, below, meth, c, Q, A, D, k, g⟩ := x
  obtain ⟨⟨hx, hb, hml, hown, hts⟩, htb, hR, hA, hK, hlk, hE⟩ := C
  intro H locs ls hP hD hS hl
  exact va_ti hx hb hE.1.2 hS hin rfl (tb_at htb hi) (h H locs ls hP hD hS hl)
theorem x_tld1 (C : Cx x cc tb nL own Ts rm) (i pc : Nat) {j : Int32} (hi : tb[i]? = some (pc, .iaload, 1)) (hin : vp_in j 8) (h : Wx x nL ce sl ws lv (pc + 1) (.int (GAP j.toNatClampNeg) :: st)) : Wx x nL ce sl ws lv pc (.int j :: .ref (xg x 1) :: st) := by
  obtain ⟨p, l, e, R, s, m, args, below, meth, c, Q, A, D, k, g⟩ := x
  obtain ⟨⟨hx, hb, hml, hown, hts⟩, htb, hR, hA, hK, hlk, hE⟩ := C
  intro H locs ls hP hD hS hl
  exact va_ti hx hb hE.2.1.2 hS hin rfl (tb_at htb hi) (h H locs ls hP hD hS hl)
theorem x_tlen0 (C : Cx x cc tb nL own Ts rm) (i pc : Nat) (hi : tb[i]? = some (pc, .arraylength, 1)) (h : Wx x nL ce sl ws lv (pc + 1) (.int 16 :: st)) : Wx x nL ce sl ws lv pc (.ref (xg x 0) :: st) := by
  obtain ⟨p, l, e, R, s, m, args, below, meth, c, Q, A, D, k, g⟩ := x
  obtain ⟨⟨hx, hb, hml, hown, hts⟩, htb, hR, hA, hK, hlk, hE⟩ := C
  intro H locs ls hP hD hS hl
  exact va_tlen hx hb hE.1.2 hS rfl (tb_at htb hi) (h H locs ls hP hD hS hl)
theorem x_tlen1 (C : Cx x cc tb nL own Ts rm) (i pc : Nat) (hi : tb[i]? = some (pc, .arraylength, 1)) (h : Wx x nL ce sl ws lv (pc + 1) (.int 8 :: st)) : Wx x nL ce sl ws lv pc (.ref (xg x 1) :: st) := by
  obtain ⟨p, l, e, R, s, m, args, below, meth, c, Q, A, D, k, g⟩ := x
  obtain ⟨⟨hx, hb, hml, hown, hts⟩, htb, hR, hA, hK, hlk, hE⟩ := C
  intro H locs ls hP hD hS hl
  exact va_tlen hx hb hE.2.1.2 hS rfl (tb_at htb hi) (h H locs ls hP hD hS hl)
theorem x_max (C : Cx x cc tb nL own Ts rm) (i pc : Nat) {index : Nat} {a b : Int32} (hi : tb[i]? = some (pc, .invokestatic index, 3)) (h1 : Cond.methodLink own index Lib.Math.max.name ∈ Ts) (h2 : Cond.static Lib.Math.max.name ∈ Ts) (h3 : Cond.initialized "java/lang/Math" ∈ Ts) (h4 : Cond.code Lib.Math.max.name Lib.Math.max.code 2 (some .int) ∈ Ts) (hf : 1 ≤ rm.frames ∧ (st.map fun v => v.category).sum + 13 ≤ rm.locals) (hc : ce ≤ rm.cells ∧ sl ≤ rm.slots) (h : Wx x nL ce sl ws lv (pc + 3) (.int (if a < b then b else a) :: st)) : Wx x nL ce sl ws lv pc (.int b :: .int a :: st) := by
  obtain ⟨p, l, e, R, s, m, args, below, meth, c, Q, A, D, k, g⟩ := x
  obtain ⟨⟨hx, hb, hml, hown, hts⟩, htb, hR, hA, hK, hlk, hE⟩ := C
  intro H locs ls hP hD hS hl
  subst hR
  exact va_mmax hx hb (hml.trans hl.1.symm) hown (hts _ h1) (hts _ h2) (hts _ h3) (hts _ h4) hf.1 hf.2 hc.1 hc.2 (tb_at htb hi) (h H locs ls hP hD hS hl)
theorem x_min (C : Cx x cc tb nL own Ts rm) (i pc : Nat) {index : Nat} {a b : Int32} (hi : tb[i]? = some (pc, .invokestatic index, 3)) (h1 : Cond.methodLink own index Lib.Math.min.name ∈ Ts) (h2 : Cond.static Lib.Math.min.name ∈ Ts) (h3 : Cond.initialized "java/lang/Math" ∈ Ts) (h4 : Cond.code Lib.Math.min.name Lib.Math.min.code 2 (some .int) ∈ Ts) (hf : 1 ≤ rm.frames ∧ (st.map fun v => v.category).sum + 13 ≤ rm.locals) (hc : ce ≤ rm.cells ∧ sl ≤ rm.slots) (h : Wx x nL ce sl ws lv (pc + 3) (.int (if b < a then b else a) :: st)) : Wx x nL ce sl ws lv pc (.int b :: .int a :: st) := by
  obtain ⟨p, l, e, R, s, m, args, below, meth, c, Q, A, D, k, g⟩ := x
  obtain ⟨⟨hx, hb, hml, hown, hts⟩, htb, hR, hA, hK, hlk, hE⟩ := C
  intro H locs ls hP hD hS hl
  subst hR
  exact va_mmin hx hb (hml.trans hl.1.symm) hown (hts _ h1) (hts _ h2) (hts _ h3) (hts _ h4) hf.1 hf.2 hc.1 hc.2 (tb_at htb hi) (h H locs ls hP hD hS hl)
theorem x_copy (C : Cx x cc tb nL own Ts rm) (i pc : Nat) {index : Nat} (hi : tb[i]? = some (pc, .invokestatic index, 3)) (h1 : Cond.methodLink own index arraycopyName ∈ Ts) (h2 : Cond.native arraycopyName ∈ Ts) (h3 : Cond.static arraycopyName ∈ Ts) (h4 : Cond.initialized "java/lang/System" ∈ Ts) (q0 q1 : Nat) {a0 a1 n0 n1 : Nat} {f0 f1 : Nat → Int32} {ws' : va_W} (ha0 : ws[q0]? = some (a0, .inl ((xk x).1, n0, .inl f0))) (ha1 : ws[q1]? = some (a1, .inl ((xk x).1, n1, .inl f1))) {sp dp n : Int32} (hs : ¬ sp < 0) (hd : ¬ dp < 0) (hn : ¬ n < 0) (h5 : sp.toNatClampNeg + n.toNatClampNeg ≤ n0) (h6 : dp.toNatClampNeg + n.toNatClampNeg ≤ n1) (hf : 1 ≤ rm.frames ∧ (st.map fun v => v.category).sum + (nativeFrameWords "java/lang/System" "arraycopy" 5 + 11) ≤ rm.locals) (hw : ws.set q1 (a1, .inl ((xk x).1, n1, .inl (va_cpy f0 f1 sp.toNatClampNeg dp.toNatClampNeg n.toNatClampNeg))) = ws') (h : Wx x nL ce sl ws' lv (pc + 3) st) : Wx x nL ce sl ws lv pc (.int n :: .int dp :: .ref a1 :: .int sp :: .ref a0 :: st) := by
  obtain ⟨p, l, e, R, s, m, args, below, meth, c, Q, A, D, k, g⟩ := x
  obtain ⟨⟨hx, hb, hml, hown, hts⟩, htb, hR, hA, hK, hlk, hE⟩ := C
  intro H locs ls hP hD hS hl
  subst hR
  exact va_copyi hx hb (hml.trans hl.1.symm) hown (hts _ h1) (hts _ h2) (hts _ h3) (hts _ h4) hK hP hD hS q0 q1 0 0 ha0 ha1 (ty := .int) rfl rfl rfl hs hd hn h5 h6 (fun _ _ => rfl) hf.1 hf.2 (tb_at htb hi) (fun H1 locs1 hP1 hD1 hS1 => h H1 locs1 ls (hw ▸ hP1) (hw ▸ hD1) hS1 hl)
end XR

/-- a contract: from the cells ws to the cells wu u, with the answer -/
def ConB (l : Launch) (y : MethodName) (wsc : List Cond) (rm : Room) (D : va_G) (k : ClassId × ClassId) (g : Nat → Nat) (av : List Value) (ws : va_W) {S : Type} (wu : S → va_W) (post : Int32 → S → Prop) : Prop :=
  ∀ sz : Nat, Met l y wsc rm (va_Pc av (fun U => U.heap.size = sz ∧ va_P D vwCl ws U.heap ∧ va_K D vwCl (tyL k) U ∧ va_D (fun _ => True) ws ∧ EXT g (va_A ws sz) U U.heap)) (va_Qi post (fun u t => va_P D vwCl (wu u) t.heap ∧ va_D (va_A ws sz) (wu u)) (va_A ws sz)) rm.cells rm.slots (va_A ws sz)
def RetB (x : CT) (ce sl : Nat) {S : Type} (wu : S → va_W) (post : Int32 → S → Prop) : Prop := match x with
  | (p, l, e, R, s, m, args, below, meth, c, Q, A, D, k, g) => meth.sig.returnType = some .byte ∧ Q = MQ below (va_Qi post (fun u t => va_P D vwCl (wu u) t.heap ∧ va_D A (wu u)) A) args s ce sl A
theorem ConB.of {l : Launch} {y : MethodName} {wsc ws' : List Cond} {rm : Room} {D : va_G} {k : ClassId × ClassId} {g : Nat → Nat} {av : List Value} {ws : va_W} {S : Type} {wu : S → va_W} {post : Int32 → S → Prop} {cc : ByteArray} {tb : Tb} {nL : Nat} (hy : plainName y.cls = true) (hw : wsc = Cond.code y cc nL (some .byte) :: ws') (htb : tbOk cc tb = true) (hn : (lg_sl av).length ≤ nL)
    (body : ∀ x : CT, xl x = l → xD x = D → xk x = k → xg x = g → Cx x cc tb nL y.cls wsc rm → RetB x rm.cells rm.slots wu post → Wx x nL 0 0 ws (lv_args 0 av) 0 []) : ConB l y wsc rm D k g av ws wu post := by
  intro sz
  refine Met.ofW (cc := cc) (maxL := nL) (ret := some .byte) hy hw ?_
  intro p e s m args below meth c s₁ B hml hv
  obtain ⟨rfl, hsz, hP, hK, hD0, hE⟩ := hv
  have hts := atoms_spec (ws := wsc) B.pre
  have hown : s.vm.findClass y.cls = some m.cls := findClass_of_methodNamed B.named
  subst hsz
  have hl := lv_entry av (n := nL) hn
  rw [lg_entry_eq]
  exact body (p, l, e, rm, s, m, av.toArray, below, meth, c, _, va_A ws s.heap.size, D, k, g) rfl rfl rfl rfl ⟨⟨B.exec, B.bytes, hml, hown, hts⟩, htb, rfl, fun q h => Or.inr h, hK, B.notSynchronized, hE⟩ ⟨B.returns, rfl⟩ s.heap [] _ hP hD0.self va_S.rf hl

/-- a contract: from the cells ws to the cells wu u, with the answer -/
def ConH (l : Launch) (y : MethodName) (wsc : List Cond) (rm : Room) (D : va_G) (k : ClassId × ClassId) (g : Nat → Nat) (av : List Value) (ws : va_W) {S : Type} (wu : S → va_W) (post : Int32 → S → Prop) : Prop :=
  ∀ sz : Nat, Met l y wsc rm (va_Pc av (fun U => U.heap.size = sz ∧ va_P D vwCl ws U.heap ∧ va_K D vwCl (tyL k) U ∧ va_D (fun _ => True) ws ∧ EXT g (va_A ws sz) U U.heap)) (va_Qi post (fun u t => va_P D vwCl (wu u) t.heap ∧ va_D (va_A ws sz) (wu u)) (va_A ws sz)) rm.cells rm.slots (va_A ws sz)
def RetH (x : CT) (ce sl : Nat) {S : Type} (wu : S → va_W) (post : Int32 → S → Prop) : Prop := match x with
  | (p, l, e, R, s, m, args, below, meth, c, Q, A, D, k, g) => meth.sig.returnType = some .char ∧ Q = MQ below (va_Qi post (fun u t => va_P D vwCl (wu u) t.heap ∧ va_D A (wu u)) A) args s ce sl A
theorem ConH.of {l : Launch} {y : MethodName} {wsc ws' : List Cond} {rm : Room} {D : va_G} {k : ClassId × ClassId} {g : Nat → Nat} {av : List Value} {ws : va_W} {S : Type} {wu : S → va_W} {post : Int32 → S → Prop} {cc : ByteArray} {tb : Tb} {nL : Nat} (hy : plainName y.cls = true) (hw : wsc = Cond.code y cc nL (some .char) :: ws') (htb : tbOk cc tb = true) (hn : (lg_sl av).length ≤ nL)
    (body : ∀ x : CT, xl x = l → xD x = D → xk x = k → xg x = g → Cx x cc tb nL y.cls wsc rm → RetH x rm.cells rm.slots wu post → Wx x nL 0 0 ws (lv_args 0 av) 0 []) : ConH l y wsc rm D k g av ws wu post := by
  intro sz
  refine Met.ofW (cc := cc) (maxL := nL) (ret := some .char) hy hw ?_
  intro p e s m args below meth c s₁ B hml hv
  obtain ⟨rfl, hsz, hP, hK, hD0, hE⟩ := hv
  have hts := atoms_spec (ws := wsc) B.pre
  have hown : s.vm.findClass y.cls = some m.cls := findClass_of_methodNamed B.named
  subst hsz
  have hl := lv_entry av (n := nL) hn
  rw [lg_entry_eq]
  exact body (p, l, e, rm, s, m, av.toArray, below, meth, c, _, va_A ws s.heap.size, D, k, g) rfl rfl rfl rfl ⟨⟨B.exec, B.bytes, hml, hown, hts⟩, htb, rfl, fun q h => Or.inr h, hK, B.notSynchronized, hE⟩ ⟨B.returns, rfl⟩ s.heap [] _ hP hD0.self va_S.rf hl

/-- a contract: from the cells ws to the cells wu u, with the answer -/
def ConI (l : Launch) (y : MethodName) (wsc : List Cond) (rm : Room) (D : va_G) (k : ClassId × ClassId) (g : Nat → Nat) (av : List Value) (ws : va_W) {S : Type} (wu : S → va_W) (post : Int32 → S → Prop) : Prop :=
  ∀ sz : Nat, Met l y wsc rm (va_Pc av (fun U => U.heap.size = sz ∧ va_P D vwCl ws U.heap ∧ va_K D vwCl (tyL k) U ∧ va_D (fun _ => True) ws ∧ EXT g (va_A ws sz) U U.heap)) (va_Qi post (fun u t => va_P D vwCl (wu u) t.heap ∧ va_D (va_A ws sz) (wu u)) (va_A ws sz)) rm.cells rm.slots (va_A ws sz)
def RetI (x : CT) (ce sl : Nat) {S : Type} (wu : S → va_W) (post : Int32 → S → Prop) : Prop := match x with
  | (p, l, e, R, s, m, args, below, meth, c, Q, A, D, k, g) => meth.sig.returnType = some .int ∧ Q = MQ below (va_Qi post (fun u t => va_P D vwCl (wu u) t.heap ∧ va_D A (wu u)) A) args s ce sl A
theorem ConI.of {l : Launch} {y : MethodName} {wsc ws' : List Cond} {rm : Room} {D : va_G} {k : ClassId × ClassId} {g : Nat → Nat} {av : List Value} {ws : va_W} {S : Type} {wu : S → va_W} {post : Int32 → S → Prop} {cc : ByteArray} {tb : Tb} {nL : Nat} (hy : plainName y.cls = true) (hw : wsc = Cond.code y cc nL (some .int) :: ws') (htb : tbOk cc tb = true) (hn : (lg_sl av).length ≤ nL)
    (body : ∀ x : CT, xl x = l → xD x = D → xk x = k → xg x = g → Cx x cc tb nL y.cls wsc rm → RetI x rm.cells rm.slots wu post → Wx x nL 0 0 ws (lv_args 0 av) 0 []) : ConI l y wsc rm D k g av ws wu post := by
  intro sz
  refine Met.ofW (cc := cc) (maxL := nL) (ret := some .int) hy hw ?_
  intro p e s m args below meth c s₁ B hml hv
  obtain ⟨rfl, hsz, hP, hK, hD0, hE⟩ := hv
  have hts := atoms_spec (ws := wsc) B.pre
  have hown : s.vm.findClass y.cls = some m.cls := findClass_of_methodNamed B.named
  subst hsz
  have hl := lv_entry av (n := nL) hn
  rw [lg_entry_eq]
  exact body (p, l, e, rm, s, m, av.toArray, below, meth, c, _, va_A ws s.heap.size, D, k, g) rfl rfl rfl rfl ⟨⟨B.exec, B.bytes, hml, hown, hts⟩, htb, rfl, fun q h => Or.inr h, hK, B.notSynchronized, hE⟩ ⟨B.returns, rfl⟩ s.heap [] _ hP hD0.self va_S.rf hl

/-- a contract: from the cells ws to the cells wu u, with the answer -/
def ConZ (l : Launch) (y : MethodName) (wsc : List Cond) (rm : Room) (D : va_G) (k : ClassId × ClassId) (g : Nat → Nat) (av : List Value) (ws : va_W) {S : Type} (wu : S → va_W) (post : Int32 → S → Prop) : Prop :=
  ∀ sz : Nat, Met l y wsc rm (va_Pc av (fun U => U.heap.size = sz ∧ va_P D vwCl ws U.heap ∧ va_K D vwCl (tyL k) U ∧ va_D (fun _ => True) ws ∧ EXT g (va_A ws sz) U U.heap)) (va_Qi post (fun u t => va_P D vwCl (wu u) t.heap ∧ va_D (va_A ws sz) (wu u)) (va_A ws sz)) rm.cells rm.slots (va_A ws sz)
def RetZ (x : CT) (ce sl : Nat) {S : Type} (wu : S → va_W) (post : Int32 → S → Prop) : Prop := match x with
  | (p, l, e, R, s, m, args, below, meth, c, Q, A, D, k, g) => meth.sig.returnType = some .boolean ∧ Q = MQ below (va_Qi post (fun u t => va_P D vwCl (wu u) t.heap ∧ va_D A (wu u)) A) args s ce sl A
theorem ConZ.of {l : Launch} {y : MethodName} {wsc ws' : List Cond} {rm : Room} {D : va_G} {k : ClassId × ClassId} {g : Nat → Nat} {av : List Value} {ws : va_W} {S : Type} {wu : S → va_W} {post : Int32 → S → Prop} {cc : ByteArray} {tb : Tb} {nL : Nat} (hy : plainName y.cls = true) (hw : wsc = Cond.code y cc nL (some .boolean) :: ws') (htb : tbOk cc tb = true) (hn : (lg_sl av).length ≤ nL)
    (body : ∀ x : CT, xl x = l → xD x = D → xk x = k → xg x = g → Cx x cc tb nL y.cls wsc rm → RetZ x rm.cells rm.slots wu post → Wx x nL 0 0 ws (lv_args 0 av) 0 []) : ConZ l y wsc rm D k g av ws wu post := by
  intro sz
  refine Met.ofW (cc := cc) (maxL := nL) (ret := some .boolean) hy hw ?_
  intro p e s m args below meth c s₁ B hml hv
  obtain ⟨rfl, hsz, hP, hK, hD0, hE⟩ := hv
  have hts := atoms_spec (ws := wsc) B.pre
  have hown : s.vm.findClass y.cls = some m.cls := findClass_of_methodNamed B.named
  subst hsz
  have hl := lv_entry av (n := nL) hn
  rw [lg_entry_eq]
  exact body (p, l, e, rm, s, m, av.toArray, below, meth, c, _, va_A ws s.heap.size, D, k, g) rfl rfl rfl rfl ⟨⟨B.exec, B.bytes, hml, hown, hts⟩, htb, rfl, fun q h => Or.inr h, hK, B.notSynchronized, hE⟩ ⟨B.returns, rfl⟩ s.heap [] _ hP hD0.self va_S.rf hl

/-- a contract: from the cells ws to the cells wu u, with the answer -/
def ConL (l : Launch) (y : MethodName) (wsc : List Cond) (rm : Room) (D : va_G) (k : ClassId × ClassId) (g : Nat → Nat) (av : List Value) (ws : va_W) {S : Type} (wu : S → va_W) (post : Int64 → S → Prop) : Prop :=
  ∀ sz : Nat, Met l y wsc rm (va_Pc av (fun U => U.heap.size = sz ∧ va_P D vwCl ws U.heap ∧ va_K D vwCl (tyL k) U ∧ va_D (fun _ => True) ws ∧ EXT g (va_A ws sz) U U.heap)) (va_Ql post (fun u t => va_P D vwCl (wu u) t.heap ∧ va_D (va_A ws sz) (wu u)) (va_A ws sz)) rm.cells rm.slots (va_A ws sz)
def RetL (x : CT) (ce sl : Nat) {S : Type} (wu : S → va_W) (post : Int64 → S → Prop) : Prop := match x with
  | (p, l, e, R, s, m, args, below, meth, c, Q, A, D, k, g) => meth.sig.returnType = some .long ∧ Q = MQ below (va_Ql post (fun u t => va_P D vwCl (wu u) t.heap ∧ va_D A (wu u)) A) args s ce sl A
theorem ConL.of {l : Launch} {y : MethodName} {wsc ws' : List Cond} {rm : Room} {D : va_G} {k : ClassId × ClassId} {g : Nat → Nat} {av : List Value} {ws : va_W} {S : Type} {wu : S → va_W} {post : Int64 → S → Prop} {cc : ByteArray} {tb : Tb} {nL : Nat} (hy : plainName y.cls = true) (hw : wsc = Cond.code y cc nL (some .long) :: ws') (htb : tbOk cc tb = true) (hn : (lg_sl av).length ≤ nL)
    (body : ∀ x : CT, xl x = l → xD x = D → xk x = k → xg x = g → Cx x cc tb nL y.cls wsc rm → RetL x rm.cells rm.slots wu post → Wx x nL 0 0 ws (lv_args 0 av) 0 []) : ConL l y wsc rm D k g av ws wu post := by
  intro sz
  refine Met.ofW (cc := cc) (maxL := nL) (ret := some .long) hy hw ?_
  intro p e s m args below meth c s₁ B hml hv
  obtain ⟨rfl, hsz, hP, hK, hD0, hE⟩ := hv
  have hts := atoms_spec (ws := wsc) B.pre
  have hown : s.vm.findClass y.cls = some m.cls := findClass_of_methodNamed B.named
  subst hsz
  have hl := lv_entry av (n := nL) hn
  rw [lg_entry_eq]
  exact body (p, l, e, rm, s, m, av.toArray, below, meth, c, _, va_A ws s.heap.size, D, k, g) rfl rfl rfl rfl ⟨⟨B.exec, B.bytes, hml, hown, hts⟩, htb, rfl, fun q h => Or.inr h, hK, B.notSynchronized, hE⟩ ⟨B.returns, rfl⟩ s.heap [] _ hP hD0.self va_S.rf hl

/-- a contract: from the cells ws to the cells wu u, with the answer -/
def ConV (l : Launch) (y : MethodName) (wsc : List Cond) (rm : Room) (D : va_G) (k : ClassId × ClassId) (g : Nat → Nat) (av : List Value) (ws : va_W) {S : Type} (wu : S → va_W) (post : S → Prop) : Prop :=
  ∀ sz : Nat, Met l y wsc rm (va_Pc av (fun U => U.heap.size = sz ∧ va_P D vwCl ws U.heap ∧ va_K D vwCl (tyL k) U ∧ va_D (fun _ => True) ws ∧ EXT g (va_A ws sz) U U.heap)) (va_Qv post (fun u t => va_P D vwCl (wu u) t.heap ∧ va_D (va_A ws sz) (wu u)) (va_A ws sz)) rm.cells rm.slots (va_A ws sz)
def RetV (x : CT) (ce sl : Nat) {S : Type} (wu : S → va_W) (post : S → Prop) : Prop := match x with
  | (p, l, e, R, s, m, args, below, meth, c, Q, A, D, k, g) => meth.sig.returnType = none ∧ Q = MQ below (va_Qv post (fun u t => va_P D vwCl (wu u) t.heap ∧ va_D A (wu u)) A) args s ce sl A
theorem ConV.of {l : Launch} {y : MethodName} {wsc ws' : List Cond} {rm : Room} {D : va_G} {k : ClassId × ClassId} {g : Nat → Nat} {av : List Value} {ws : va_W} {S : Type} {wu : S → va_W} {post : S → Prop} {cc : ByteArray} {tb : Tb} {nL : Nat} (hy : plainName y.cls = true) (hw : wsc = Cond.code y cc nL (none) :: ws') (htb : tbOk cc tb = true) (hn : (lg_sl av).length ≤ nL)
    (body : ∀ x : CT, xl x = l → xD x = D → xk x = k → xg x = g → Cx x cc tb nL y.cls wsc rm → RetV x rm.cells rm.slots wu post → Wx x nL 0 0 ws (lv_args 0 av) 0 []) : ConV l y wsc rm D k g av ws wu post := by
  intro sz
  refine Met.ofW (cc := cc) (maxL := nL) (ret := none) hy hw ?_
  intro p e s m args below meth c s₁ B hml hv
  obtain ⟨rfl, hsz, hP, hK, hD0, hE⟩ := hv
  have hts := atoms_spec (ws := wsc) B.pre
  have hown : s.vm.findClass y.cls = some m.cls := findClass_of_methodNamed B.named
  subst hsz
  have hl := lv_entry av (n := nL) hn
  rw [lg_entry_eq]
  exact body (p, l, e, rm, s, m, av.toArray, below, meth, c, _, va_A ws s.heap.size, D, k, g) rfl rfl rfl rfl ⟨⟨B.exec, B.bytes, hml, hown, hts⟩, htb, rfl, fun q h => Or.inr h, hK, B.notSynchronized, hE⟩ ⟨B.returns, rfl⟩ s.heap [] _ hP hD0.self va_S.rf hl

section XRET
variable {x : CT} {cc : ByteArray} {tb : Tb} {nL : Nat} {own : String} {Ts : List Cond} {rm : Room} {ce sl : Nat} {ws : va_W} {lv : List (Nat × Value)}
theorem x_iret (C : Cx x cc tb nL own Ts rm) {S : Type} {wu : S → va_W} {post : Int32 → S → Prop} (r : RetI x ce sl wu post) (i pc : Nat) {v : Int32} (hi : tb[i]? = some (pc, .ireturn, 1)) (u : S) (hw : wu u = ws) (hp : post v u) : Wx x nL ce sl ws lv pc [.int v] := by
  obtain ⟨p, l, e, R, s, m, args, below, meth, c, Q, A, D, k, g⟩ := x
  obtain ⟨⟨hx, hb, hml, hown, hts⟩, htb, hR, hA, hK, hlk, hE⟩ := C
  obtain ⟨hr, hQ⟩ := r
  subst hQ
  subst hw
  intro H locs ls hP hD hS hl
  exact W.iret hx hb hr (fun t ht hW => ⟨⟨v, u, rfl, hp, by rw [ht]; exact hP, hD⟩, hS.F ht⟩) hS.2.2 (tb_at htb hi) hlk
theorem x_zret (C : Cx x cc tb nL own Ts rm) {S : Type} {wu : S → va_W} {post : Int32 → S → Prop} (r : RetZ x ce sl wu post) (i pc : Nat) {v : Int32} (hi : tb[i]? = some (pc, .ireturn, 1)) (hz : zb v) (u : S) (hw : wu u = ws) (hp : post v u) : Wx x nL ce sl ws lv pc [.int v] := by
  obtain ⟨p, l, e, R, s, m, args, below, meth, c, Q, A, D, k, g⟩ := x
  obtain ⟨⟨hx, hb, hml, hown, hts⟩, htb, hR, hA, hK, hlk, hE⟩ := C
  obtain ⟨hr, hQ⟩ := r
  subst hQ
  subst hw
  intro H locs ls hP hD hS hl
  exact W.zret hx hb hr (zb_n hz) (fun t ht hW => ⟨⟨v, u, rfl, hp, by rw [ht]; exact hP, hD⟩, hS.F ht⟩) hS.2.2 (tb_at htb hi) hlk
theorem x_bret (C : Cx x cc tb nL own Ts rm) {S : Type} {wu : S → va_W} {post : Int32 → S → Prop} (r : RetB x ce sl wu post) (i pc : Nat) {v : Int32} (hi : tb[i]? = some (pc, .ireturn, 1)) (hz : narrow .byte (.int v) = .int v) (u : S) (hw : wu u = ws) (hp : post v u) : Wx x nL ce sl ws lv pc [.int v] := by
  obtain ⟨p, l, e, R, s, m, args, below, meth, c, Q, A, D, k, g⟩ := x
  obtain ⟨⟨hx, hb, hml, hown, hts⟩, htb, hR, hA, hK, hlk, hE⟩ := C
  obtain ⟨hr, hQ⟩ := r
  subst hQ
  subst hw
  intro H locs ls hP hD hS hl
  exact W.zret hx hb hr hz (fun t ht hW => ⟨⟨v, u, rfl, hp, by rw [ht]; exact hP, hD⟩, hS.F ht⟩) hS.2.2 (tb_at htb hi) hlk
theorem x_hret (C : Cx x cc tb nL own Ts rm) {S : Type} {wu : S → va_W} {post : Int32 → S → Prop} (r : RetH x ce sl wu post) (i pc : Nat) {v : Int32} (hi : tb[i]? = some (pc, .ireturn, 1)) (hz : narrow .char (.int v) = .int v) (u : S) (hw : wu u = ws) (hp : post v u) : Wx x nL ce sl ws lv pc [.int v] := by
  obtain ⟨p, l, e, R, s, m, args, below, meth, c, Q, A, D, k, g⟩ := x
  obtain ⟨⟨hx, hb, hml, hown, hts⟩, htb, hR, hA, hK, hlk, hE⟩ := C
  obtain ⟨hr, hQ⟩ := r
  subst hQ
  subst hw
  intro H locs ls hP hD hS hl
  exact W.zret hx hb hr hz (fun t ht hW => ⟨⟨v, u, rfl, hp, by rw [ht]; exact hP, hD⟩, hS.F ht⟩) hS.2.2 (tb_at htb hi) hlk
theorem x_lret (C : Cx x cc tb nL own Ts rm) {S : Type} {wu : S → va_W} {post : Int64 → S → Prop} (r : RetL x ce sl wu post) (i pc : Nat) {v : Int64} (hi : tb[i]? = some (pc, .lreturn, 1)) (u : S) (hw : wu u = ws) (hp : post v u) : Wx x nL ce sl ws lv pc [.long v] := by
  obtain ⟨p, l, e, R, s, m, args, below, meth, c, Q, A, D, k, g⟩ := x
  obtain ⟨⟨hx, hb, hml, hown, hts⟩, htb, hR, hA, hK, hlk, hE⟩ := C
  obtain ⟨hr, hQ⟩ := r
  subst hQ
  subst hw
  intro H locs ls hP hD hS hl
  exact W.lret hx hb hr (fun t ht hW => ⟨⟨v, u, rfl, hp, by rw [ht]; exact hP, hD⟩, hS.F ht⟩) hS.2.2 (tb_at htb hi) hlk
theorem x_vret (C : Cx x cc tb nL own Ts rm) {S : Type} {wu : S → va_W} {post : S → Prop} (r : RetV x ce sl wu post) (i pc : Nat) (hi : tb[i]? = some (pc, .return_, 1)) (u : S) (hw : wu u = ws) (hp : post u) : Wx x nL ce sl ws lv pc [] := by
  obtain ⟨p, l, e, R, s, m, args, below, meth, c, Q, A, D, k, g⟩ := x
  obtain ⟨⟨hx, hb, hml, hown, hts⟩, htb, hR, hA, hK, hlk, hE⟩ := C
  obtain ⟨hr, hQ⟩ := r
  subst hQ
  subst hw
  intro H locs ls hP hD hS hl
  exact W.vret hx hb hr (fun t ht hW => ⟨⟨u, rfl, hp, by rw [ht]; exact hP, hD⟩, hS.F ht⟩) hS.2.2 (tb_at htb hi) hlk
end XRET
/-- a callee of the one word list: its own code, then all words -/
def calleeOk (WW : List Cond) (y : MethodName) (n : Nat) : Prop := (y.cls ≠ "java/lang/invoke/MethodHandle" ∧ y.cls ≠ "java/lang/invoke/VarHandle" ∧ (parseMethodDescriptor y.desc).map (fun d => d.parameters.length) = some n)
theorem good_ww {WW : List Cond} (hg : WW.all goodWord = true) {a : Cond} {hd : List Cond} {b : Cond} (hh : ∀ w ∈ hd, w ∈ WW) (hb : b ∈ WW) : GoodIn (a :: WW) (hd ++ (b :: WW)) := by
  have all := List.all_eq_true.mp hg
  intro w hw
  rcases List.mem_append.mp hw with h | h
  · exact ⟨List.mem_cons_of_mem _ (hh w h), good_of_word (all w (hh w h))⟩
  · rcases List.mem_cons.mp h with h | h
    · subst h; exact ⟨List.mem_cons_of_mem _ hb, good_of_word (all _ hb)⟩
    · exact ⟨List.mem_cons_of_mem _ h, good_of_word (all w h)⟩
theorem free_kept {D : va_G} {cl : List vw_C} {ws : va_W} {H H1 : Heap} (hP : va_P D cl ws H) (hk : ∀ q : Nat, q < H.size → ¬ va_A [] H.size q → H1[q]? = H[q]?) : va_P D cl ws H1 := hP.kept (fun k q hq => by
  have hl := (hP k q hq).lt
  exact hk q.1 hl (fun h => by rcases h with ⟨k2, e, h⟩ | h
                               · simp at h
                               · omega))
theorem x_callWVB {x : CT} {cc : ByteArray} {tb : Tb} {nL : Nat} {own : String} {WW : List Cond} {c0 : Cond} {rm : Room} {ce sl : Nat} {ws wc : va_W} {lv : List (Nat × Value)} {st : List Value} {y : MethodName} {bytes : ByteArray} {maxL index : Nat} {rmc : Room} {b : Nat} {As : List Value} {S : Type} {wu : S → va_W} {post : Int32 → S → Prop} (C : Cx x cc tb nL own (c0 :: WW) rm) (i pc : Nat) (hM : ConB (xl x) y (Cond.code y bytes maxL (some .byte) :: WW) rmc (xD x) (xk x) (xg x) (.ref b :: As) wc wu post) (hi : tb[i]? = some (pc, .invokevirtual index, 3)) (hg : WW.all goodWord = true) (hh : ∀ w ∈ [Cond.methodLink own index y, .instanceMethod y, .selects y.cls y y, .initialized y.cls], w ∈ WW) (hcode : Cond.code y bytes maxL (some .byte) ∈ WW) (n : Nat) (hd : calleeOk WW y n) (hn : As.length = n) (hrm : rmc.frames + 1 ≤ rm.frames ∧ 8 + (maxL + 11) + rmc.locals ≤ rm.locals) (hst : (st.map fun v => v.category).sum ≤ 8) (hcs : ce ≤ rm.cells ∧ sl ≤ rm.slots) (hz : rmc.cells = 0 ∧ rmc.slots = 0) {ci q0 : Nat} {q : vw_C} {fs : List Value} (hci : vwCl[ci]? = some (y.cls, q.2)) (he : wc[q0]? = some (b, .inr (ci, fs))) (hws : wc = ws)
    (h : ∀ (r : Int32) (u : S), post r u → Wx x nL ce sl (wu u) lv (pc + 3) (.int r :: st)) : Wx x nL ce sl ws lv pc (As.reverse ++ .ref b :: st) := by
  obtain ⟨p, l, e, R, s, m, args, below, meth, c, Q, A, D, k, g⟩ := x
  obtain ⟨⟨hx, hb, hml, hown, hts⟩, htb, hR, hA, hK, hlk, hE⟩ := C
  intro H locs ls hP hD hS hl
  subst hR
  subst hws
  have hPc := hP
  have hDc := hD
  have hKc := hK
  have hFc : ∀ q, va_A wc H.size q → A q := fun q h => by rcases h with ⟨k, e, h⟩ | h; exact hD.2 k (q, e) h; exact hA q (Nat.le_trans hS.1 h)
  have hEc : EXT g (va_A wc H.size) s H := (hE.kept (fun a h1 h2 => hS.2.1 a h1 h2)).narrow hFc
  refine va_calli (va_runV (As := As) (rest := st) ⟨hx, hb, hml, hown, hts⟩ (hM H.size) (cwV n hts (good_ww hg hh hcode) rfl rfl rfl ⟨rfl, hd⟩ hrm) ⟨fun a U gf mk q => by obtain ⟨z0, z1, zP, zK, zD, zE⟩ := q; exact ⟨z0, z1, zP, va_K.moved (u := U) (U := U.calling gf mk a) (Vm.Alike.refl U.vm) zK, zD, zE.calling⟩, va_recv hKc hPc (ci := ci) (q0 := q0) hci he, fun U hU hW => ⟨rfl, by rw [hU], by rw [hU]; exact hPc, va_K.moved hW.alike hKc, hDc.weaken (fun _ _ _ _ => trivial), by rw [hU]; exact hEc.warm hW⟩⟩ rfl hn hl.1 rfl (lv_room hst) (tb_at htb hi) (by rw [hz.1, hz.2]; exact hcs)) hS (fun q _ h => hFc q h) hFc (fun r u t H1 locs1 ht hvm hw hB hz1 hk1 hS1 => ?_)
  obtain ⟨hP1, hD1⟩ := hB
  rw [ht] at hP1
  rw [hz.1, hz.2]
  exact h r u hw H1 locs1 ls hP1 (hD1.weaken (fun _ q _ h => hFc q.1 h)) hS1 hl

theorem x_callWSB {x : CT} {cc : ByteArray} {tb : Tb} {nL : Nat} {own : String} {WW : List Cond} {c0 : Cond} {rm : Room} {ce sl : Nat} {ws wc : va_W} {lv : List (Nat × Value)} {st : List Value} {y : MethodName} {bytes : ByteArray} {maxL index : Nat} {rmc : Room} {As : List Value} {S : Type} {wu : S → va_W} {post : Int32 → S → Prop} (C : Cx x cc tb nL own (c0 :: WW) rm) (i pc : Nat) (hM : ConB (xl x) y (Cond.code y bytes maxL (some .byte) :: WW) rmc (xD x) (xk x) (xg x) As wc wu post) (hi : tb[i]? = some (pc, .invokestatic index, 3)) (hg : WW.all goodWord = true) (hh : ∀ w ∈ [Cond.methodLink own index y, .static y, .initialized y.cls], w ∈ WW) (hcode : Cond.code y bytes maxL (some .byte) ∈ WW) (n : Nat) (hd : calleeOk WW y n) (hn : As.length = n) (hrm : rmc.frames + 1 ≤ rm.frames ∧ 8 + (maxL + 11) + rmc.locals ≤ rm.locals) (hst : (st.map fun v => v.category).sum ≤ 8) (hcs : ce ≤ rm.cells ∧ sl ≤ rm.slots) (hz : rmc.cells = 0 ∧ rmc.slots = 0) (hws : wc = ws)
    (h : ∀ (r : Int32) (u : S), post r u → Wx x nL ce sl (wu u) lv (pc + 3) (.int r :: st)) : Wx x nL ce sl ws lv pc (As.reverse ++ st) := by
  obtain ⟨p, l, e, R, s, m, args, below, meth, c, Q, A, D, k, g⟩ := x
  obtain ⟨⟨hx, hb, hml, hown, hts⟩, htb, hR, hA, hK, hlk, hE⟩ := C
  intro H locs ls hP hD hS hl
  subst hR
  subst hws
  have hPc := hP
  have hDc := hD
  have hKc := hK
  have hFc : ∀ q, va_A wc H.size q → A q := fun q h => by rcases h with ⟨k, e, h⟩ | h; exact hD.2 k (q, e) h; exact hA q (Nat.le_trans hS.1 h)
  have hEc : EXT g (va_A wc H.size) s H := (hE.kept (fun a h1 h2 => hS.2.1 a h1 h2)).narrow hFc
  refine va_calli (va_runS (As := As) (rest := st) ⟨hx, hb, hml, hown, hts⟩ (hM H.size) (va_cwS n hts (good_ww hg hh hcode) rfl rfl rfl hd hrm) ⟨fun a U gf mk q => by obtain ⟨z0, z1, zP, zK, zD, zE⟩ := q; exact ⟨z0, z1, zP, va_K.moved (u := U) (U := U.calling gf mk a) (Vm.Alike.refl U.vm) zK, zD, zE.calling⟩, fun U hU hW => ⟨rfl, by rw [hU], by rw [hU]; exact hPc, va_K.moved hW.alike hKc, hDc.weaken (fun _ _ _ _ => trivial), by rw [hU]; exact hEc.warm hW⟩⟩ rfl hn hl.1 rfl (lv_room hst) (tb_at htb hi) (by rw [hz.1, hz.2]; exact hcs)) hS (fun q _ h => hFc q h) hFc (fun r u t H1 locs1 ht hvm hw hB hz1 hk1 hS1 => ?_)
  obtain ⟨hP1, hD1⟩ := hB
  rw [ht] at hP1
  rw [hz.1, hz.2]
  exact h r u hw H1 locs1 ls hP1 (hD1.weaken (fun _ q _ h => hFc q.1 h)) hS1 hl

theorem x_call0SB {x : CT} {cc : ByteArray} {tb : Tb} {nL : Nat} {own : String} {WW : List Cond} {c0 : Cond} {rm : Room} {ce sl : Nat} {ws wc : va_W} {lv : List (Nat × Value)} {st : List Value} {y : MethodName} {bytes : ByteArray} {maxL index : Nat} {rmc : Room} {As : List Value} {S : Type} {wu : S → va_W} {post : Int32 → S → Prop} (C : Cx x cc tb nL own (c0 :: WW) rm) (i pc : Nat) (hM : ConB (xl x) y (Cond.code y bytes maxL (some .byte) :: WW) rmc (xD x) (xk x) (xg x) As wc wu post) (hi : tb[i]? = some (pc, .invokestatic index, 3)) (hg : WW.all goodWord = true) (hh : ∀ w ∈ [Cond.methodLink own index y, .static y, .initialized y.cls], w ∈ WW) (hcode : Cond.code y bytes maxL (some .byte) ∈ WW) (n : Nat) (hd : calleeOk WW y n) (hn : As.length = n) (hrm : rmc.frames + 1 ≤ rm.frames ∧ 8 + (maxL + 11) + rmc.locals ≤ rm.locals) (hst : (st.map fun v => v.category).sum ≤ 8) (hcs : ce ≤ rm.cells ∧ sl ≤ rm.slots) (hz : rmc.cells = 0 ∧ rmc.slots = 0) (hws : wc = []) 
    (h : ∀ (r : Int32) (u : S), post r u → Wx x nL ce sl ws lv (pc + 3) (.int r :: st)) : Wx x nL ce sl ws lv pc (As.reverse ++ st) := by
  obtain ⟨p, l, e, R, s, m, args, below, meth, c, Q, A, D, k, g⟩ := x
  obtain ⟨⟨hx, hb, hml, hown, hts⟩, htb, hR, hA, hK, hlk, hE⟩ := C
  intro H locs ls hP hD hS hl
  subst hR
  subst hws
  have hPc : va_P D vwCl [] H := fun k q h => by simp at h
  have hDc : va_D A [] := ⟨fun i j p q h => by simp at h, fun k q h => by simp at h⟩
  have hKc := hK
  have hFc : ∀ q, va_A [] H.size q → A q := fun q h => by rcases h with ⟨k, e, h⟩ | h; simp at h; exact hA q (Nat.le_trans hS.1 h)
  have hEc : EXT g (va_A [] H.size) s H := (hE.kept (fun a h1 h2 => hS.2.1 a h1 h2)).narrow hFc
  refine va_calli (va_runS (As := As) (rest := st) ⟨hx, hb, hml, hown, hts⟩ (hM H.size) (va_cwS n hts (good_ww hg hh hcode) rfl rfl rfl hd hrm) ⟨fun a U gf mk q => by obtain ⟨z0, z1, zP, zK, zD, zE⟩ := q; exact ⟨z0, z1, zP, va_K.moved (u := U) (U := U.calling gf mk a) (Vm.Alike.refl U.vm) zK, zD, zE.calling⟩, fun U hU hW => ⟨rfl, by rw [hU], by rw [hU]; exact hPc, va_K.moved hW.alike hKc, hDc.weaken (fun _ _ _ _ => trivial), by rw [hU]; exact hEc.warm hW⟩⟩ rfl hn hl.1 rfl (lv_room hst) (tb_at htb hi) (by rw [hz.1, hz.2]; exact hcs)) hS (fun q _ h => hFc q h) hFc (fun r u t H1 locs1 ht hvm hw hB hz1 hk1 hS1 => ?_)
  obtain ⟨hP1, hD1⟩ := hB
  rw [ht] at hP1
  rw [hz.1, hz.2]
  exact h r u hw H1 locs1 ls (free_kept hP hk1) hD hS1 hl

theorem x_call0EB {x : CT} {cc : ByteArray} {tb : Tb} {nL : Nat} {own : String} {WW : List Cond} {c0 : Cond} {rm : Room} {ce sl : Nat} {ws wc : va_W} {lv : List (Nat × Value)} {st : List Value} {y : MethodName} {bytes : ByteArray} {maxL index : Nat} {rmc : Room} {q : Nat} {As : List Value} {S : Type} {wu : S → va_W} {post : Int32 → S → Prop} (C : Cx x cc tb nL own (c0 :: WW) rm) (i pc : Nat) (hM : ConB (xl x) y (Cond.code y bytes maxL (some .byte) :: WW) rmc (xD x) (xk x) (xg x) (.ref (xg x (2 + q)) :: As) wc wu post) (hi : tb[i]? = some (pc, .invokevirtual index, 3)) (hg : WW.all goodWord = true) (hh : ∀ w ∈ [Cond.methodLink own index y, .instanceMethod y, .selects y.cls y y, .initialized y.cls], w ∈ WW) (hcode : Cond.code y bytes maxL (some .byte) ∈ WW) (n : Nat) (hd : calleeOk WW y n) (hn : As.length = n) (hrm : rmc.frames + 1 ≤ rm.frames ∧ 8 + (maxL + 11) + rmc.locals ≤ rm.locals) (hst : (st.map fun v => v.category).sum ≤ 8) (hcs : ce ≤ rm.cells ∧ sl ≤ rm.slots) (hz : rmc.cells = 0 ∧ rmc.slots = 0) (hws : wc = []) (hyc : y.cls = "java/lang/String") (hq : q < 2) 
    (h : ∀ (r : Int32) (u : S), post r u → Wx x nL ce sl ws lv (pc + 3) (.int r :: st)) : Wx x nL ce sl ws lv pc (As.reverse ++ .ref (xg x (2 + q)) :: st) := by
  obtain ⟨p, l, e, R, s, m, args, below, meth, c, Q, A, D, k, g⟩ := x
  obtain ⟨⟨hx, hb, hml, hown, hts⟩, htb, hR, hA, hK, hlk, hE⟩ := C
  intro H locs ls hP hD hS hl
  subst hR
  subst hws
  have hPc : va_P D vwCl [] H := fun k q h => by simp at h
  have hDc : va_D A [] := ⟨fun i j p q h => by simp at h, fun k q h => by simp at h⟩
  have hKc := hK
  have hFc : ∀ q, va_A [] H.size q → A q := fun q h => by rcases h with ⟨k, e, h⟩ | h; simp at h; exact hA q (Nat.le_trans hS.1 h)
  have hEc : EXT g (va_A [] H.size) s H := (hE.kept (fun a h1 h2 => hS.2.1 a h1 h2)).narrow hFc
  refine va_calli (va_runV (As := As) (rest := st) ⟨hx, hb, hml, hown, hts⟩ (hM H.size) (cwV n hts (good_ww hg hh hcode) rfl rfl rfl ⟨rfl, hd⟩ hrm) ⟨fun a U gf mk q => by obtain ⟨z0, z1, zP, zK, zD, zE⟩ := q; exact ⟨z0, z1, zP, va_K.moved (u := U) (U := U.calling gf mk a) (Vm.Alike.refl U.vm) zK, zD, zE.calling⟩, by rw [hyc]; exact vk_recv (adK := fun i => g (2 + i)) (adV := fun i => g (4 + i)) (i := q) hE.2.2.1.2 hq hS, fun U hU hW => ⟨rfl, by rw [hU], by rw [hU]; exact hPc, va_K.moved hW.alike hKc, hDc.weaken (fun _ _ _ _ => trivial), by rw [hU]; exact hEc.warm hW⟩⟩ rfl hn hl.1 rfl (lv_room hst) (tb_at htb hi) (by rw [hz.1, hz.2]; exact hcs)) hS (fun q _ h => hFc q h) hFc (fun r u t H1 locs1 ht hvm hw hB hz1 hk1 hS1 => ?_)
  obtain ⟨hP1, hD1⟩ := hB
  rw [ht] at hP1
  rw [hz.1, hz.2]
  exact h r u hw H1 locs1 ls (free_kept hP hk1) hD hS1 hl

theorem x_callWVH {x : CT} {cc : ByteArray} {tb : Tb} {nL : Nat} {own : String} {WW : List Cond} {c0 : Cond} {rm : Room} {ce sl : Nat} {ws wc : va_W} {lv : List (Nat × Value)} {st : List Value} {y : MethodName} {bytes : ByteArray} {maxL index : Nat} {rmc : Room} {b : Nat} {As : List Value} {S : Type} {wu : S → va_W} {post : Int32 → S → Prop} (C : Cx x cc tb nL own (c0 :: WW) rm) (i pc : Nat) (hM : ConH (xl x) y (Cond.code y bytes maxL (some .char) :: WW) rmc (xD x) (xk x) (xg x) (.ref b :: As) wc wu post) (hi : tb[i]? = some (pc, .invokevirtual index, 3)) (hg : WW.all goodWord = true) (hh : ∀ w ∈ [Cond.methodLink own index y, .instanceMethod y, .selects y.cls y y, .initialized y.cls], w ∈ WW) (hcode : Cond.code y bytes maxL (some .char) ∈ WW) (n : Nat) (hd : calleeOk WW y n) (hn : As.length = n) (hrm : rmc.frames + 1 ≤ rm.frames ∧ 8 + (maxL + 11) + rmc.locals ≤ rm.locals) (hst : (st.map fun v => v.category).sum ≤ 8) (hcs : ce ≤ rm.cells ∧ sl ≤ rm.slots) (hz : rmc.cells = 0 ∧ rmc.slots = 0) {ci q0 : Nat} {q : vw_C} {fs : List Value} (hci : vwCl[ci]? = some (y.cls, q.2)) (he : wc[q0]? = some (b, .inr (ci, fs))) (hws : wc = ws)
    (h : ∀ (r : Int32) (u : S), post r u → Wx x nL ce sl (wu u) lv (pc + 3) (.int r :: st)) : Wx x nL ce sl ws lv pc (As.reverse ++ .ref b :: st) := by
  obtain ⟨p, l, e, R, s, m, args, below, meth, c, Q, A, D, k, g⟩ := x
  obtain ⟨⟨hx, hb, hml, hown, hts⟩, htb, hR, hA, hK, hlk, hE⟩ := C
  intro H locs ls hP hD hS hl
  subst hR
  subst hws
  have hPc := hP
  have hDc := hD
  have hKc := hK
  have hFc : ∀ q, va_A wc H.size q → A q := fun q h => by rcases h with ⟨k, e, h⟩ | h; exact hD.2 k (q, e) h; exact hA q (Nat.le_trans hS.1 h)
  have hEc : EXT g (va_A wc H.size) s H := (hE.kept (fun a h1 h2 => hS.2.1 a h1 h2)).narrow hFc
  refine va_calli (va_runV (As := As) (rest := st) ⟨hx, hb, hml, hown, hts⟩ (hM H.size) (cwV n hts (good_ww hg hh hcode) rfl rfl rfl ⟨rfl, hd⟩ hrm) ⟨fun a U gf mk q => by obtain ⟨z0, z1, zP, zK, zD, zE⟩ := q; exact ⟨z0, z1, zP, va_K.moved (u := U) (U := U.calling gf mk a) (Vm.Alike.refl U.vm) zK, zD, zE.calling⟩, va_recv hKc hPc (ci := ci) (q0 := q0) hci he, fun U hU hW => ⟨rfl, by rw [hU], by rw [hU]; exact hPc, va_K.moved hW.alike hKc, hDc.weaken (fun _ _ _ _ => trivial), by rw [hU]; exact hEc.warm hW⟩⟩ rfl hn hl.1 rfl (lv_room hst) (tb_at htb hi) (by rw [hz.1, hz.2]; exact hcs)) hS (fun q _ h => hFc q h) hFc (fun r u t H1 locs1 ht hvm hw hB hz1 hk1 hS1 => ?_)
  obtain ⟨hP1, hD1⟩ := hB
  rw [ht] at hP1
  rw [hz.1, hz.2]
  exact h r u hw H1 locs1 ls hP1 (hD1.weaken (fun _ q _ h => hFc q.1 h)) hS1 hl

theorem x_callWSH {x : CT} {cc : ByteArray} {tb : Tb} {nL : Nat} {own : String} {WW : List Cond} {c0 : Cond} {rm : Room} {ce sl : Nat} {ws wc : va_W} {lv : List (Nat × Value)} {st : List Value} {y : MethodName} {bytes : ByteArray} {maxL index : Nat} {rmc : Room} {As : List Value} {S : Type} {wu : S → va_W} {post : Int32 → S → Prop} (C : Cx x cc tb nL own (c0 :: WW) rm) (i pc : Nat) (hM : ConH (xl x) y (Cond.code y bytes maxL (some .char) :: WW) rmc (xD x) (xk x) (xg x) As wc wu post) (hi : tb[i]? = some (pc, .invokestatic index, 3)) (hg : WW.all goodWord = true) (hh : ∀ w ∈ [Cond.methodLink own index y, .static y, .initialized y.cls], w ∈ WW) (hcode : Cond.code y bytes maxL (some .char) ∈ WW) (n : Nat) (hd : calleeOk WW y n) (hn : As.length = n) (hrm : rmc.frames + 1 ≤ rm.frames ∧ 8 + (maxL + 11) + rmc.locals ≤ rm.locals) (hst : (st.map fun v => v.category).sum ≤ 8) (hcs : ce ≤ rm.cells ∧ sl ≤ rm.slots) (hz : rmc.cells = 0 ∧ rmc.slots = 0) (hws : wc = ws)
    (h : ∀ (r : Int32) (u : S), post r u → Wx x nL ce sl (wu u) lv (pc + 3) (.int r :: st)) : Wx x nL ce sl ws lv pc (As.reverse ++ st) := by
  obtain ⟨p, l, e, R, s, m, args, below, meth, c, Q, A, D, k, g⟩ := x
  obtain ⟨⟨hx, hb, hml, hown, hts⟩, htb, hR, hA, hK, hlk, hE⟩ := C
  intro H locs ls hP hD hS hl
  subst hR
  subst hws
  have hPc := hP
  have hDc := hD
  have hKc := hK
  have hFc : ∀ q, va_A wc H.size q → A q := fun q h => by rcases h with ⟨k, e, h⟩ | h; exact hD.2 k (q, e) h; exact hA q (Nat.le_trans hS.1 h)
  have hEc : EXT g (va_A wc H.size) s H := (hE.kept (fun a h1 h2 => hS.2.1 a h1 h2)).narrow hFc
  refine va_calli (va_runS (As := As) (rest := st) ⟨hx, hb, hml, hown, hts⟩ (hM H.size) (va_cwS n hts (good_ww hg hh hcode) rfl rfl rfl hd hrm) ⟨fun a U gf mk q => by obtain ⟨z0, z1, zP, zK, zD, zE⟩ := q; exact ⟨z0, z1, zP, va_K.moved (u := U) (U := U.calling gf mk a) (Vm.Alike.refl U.vm) zK, zD, zE.calling⟩, fun U hU hW => ⟨rfl, by rw [hU], by rw [hU]; exact hPc, va_K.moved hW.alike hKc, hDc.weaken (fun _ _ _ _ => trivial), by rw [hU]; exact hEc.warm hW⟩⟩ rfl hn hl.1 rfl (lv_room hst) (tb_at htb hi) (by rw [hz.1, hz.2]; exact hcs)) hS (fun q _ h => hFc q h) hFc (fun r u t H1 locs1 ht hvm hw hB hz1 hk1 hS1 => ?_)
  obtain ⟨hP1, hD1⟩ := hB
  rw [ht] at hP1
  rw [hz.1, hz.2]
  exact h r u hw H1 locs1 ls hP1 (hD1.weaken (fun _ q _ h => hFc q.1 h)) hS1 hl

theorem x_call0SH {x : CT} {cc : ByteArray} {tb : Tb} {nL : Nat} {own : String} {WW : List Cond} {c0 : Cond} {rm : Room} {ce sl : Nat} {ws wc : va_W} {lv : List (Nat × Value)} {st : List Value} {y : MethodName} {bytes : ByteArray} {maxL index : Nat} {rmc : Room} {As : List Value} {S : Type} {wu : S → va_W} {post : Int32 → S → Prop} (C : Cx x cc tb nL own (c0 :: WW) rm) (i pc : Nat) (hM : ConH (xl x) y (Cond.code y bytes maxL (some .char) :: WW) rmc (xD x) (xk x) (xg x) As wc wu post) (hi : tb[i]? = some (pc, .invokestatic index, 3)) (hg : WW.all goodWord = true) (hh : ∀ w ∈ [Cond.methodLink own index y, .static y, .initialized y.cls], w ∈ WW) (hcode : Cond.code y bytes maxL (some .char) ∈ WW) (n : Nat) (hd : calleeOk WW y n) (hn : As.length = n) (hrm : rmc.frames + 1 ≤ rm.frames ∧ 8 + (maxL + 11) + rmc.locals ≤ rm.locals) (hst : (st.map fun v => v.category).sum ≤ 8) (hcs : ce ≤ rm.cells ∧ sl ≤ rm.slots) (hz : rmc.cells = 0 ∧ rmc.slots = 0) (hws : wc = []) 
    (h : ∀ (r : Int32) (u : S), post r u → Wx x nL ce sl ws lv (pc + 3) (.int r :: st)) : Wx x nL ce sl ws lv pc (As.reverse ++ st) := by
  obtain ⟨p, l, e, R, s, m, args, below, meth, c, Q, A, D, k, g⟩ := x
  obtain ⟨⟨hx, hb, hml, hown, hts⟩, htb, hR, hA, hK, hlk, hE⟩ := C
  intro H locs ls hP hD hS hl
  subst hR
  subst hws
  have hPc : va_P D vwCl [] H := fun k q h => by simp at h
  have hDc : va_D A [] := ⟨fun i j p q h => by simp at h, fun k q h => by simp at h⟩
  have hKc := hK
  have hFc : ∀ q, va_A [] H.size q → A q := fun q h => by rcases h with ⟨k, e, h⟩ | h; simp at h; exact hA q (Nat.le_trans hS.1 h)
  have hEc : EXT g (va_A [] H.size) s H := (hE.kept (fun a h1 h2 => hS.2.1 a h1 h2)).narrow hFc
  refine va_calli (va_runS (As := As) (rest := st) ⟨hx, hb, hml, hown, hts⟩ (hM H.size) (va_cwS n hts (good_ww hg hh hcode) rfl rfl rfl hd hrm) ⟨fun a U gf mk q => by obtain ⟨z0, z1, zP, zK, zD, zE⟩ := q; exact ⟨z0, z1, zP, va_K.moved (u := U) (U := U.calling gf mk a) (Vm.Alike.refl U.vm) zK, zD, zE.calling⟩, fun U hU hW => ⟨rfl, by rw [hU], by rw [hU]; exact hPc, va_K.moved hW.alike hKc, hDc.weaken (fun _ _ _ _ => trivial), by rw [hU]; exact hEc.warm hW⟩⟩ rfl hn hl.1 rfl (lv_room hst) (tb_at htb hi) (by rw [hz.1, hz.2]; exact hcs)) hS (fun q _ h => hFc q h) hFc (fun r u t H1 locs1 ht hvm hw hB hz1 hk1 hS1 => ?_)
  obtain ⟨hP1, hD1⟩ := hB
  rw [ht] at hP1
  rw [hz.1, hz.2]
  exact h r u hw H1 locs1 ls (free_kept hP hk1) hD hS1 hl

theorem x_call0EH {x : CT} {cc : ByteArray} {tb : Tb} {nL : Nat} {own : String} {WW : List Cond} {c0 : Cond} {rm : Room} {ce sl : Nat} {ws wc : va_W} {lv : List (Nat × Value)} {st : List Value} {y : MethodName} {bytes : ByteArray} {maxL index : Nat} {rmc : Room} {q : Nat} {As : List Value} {S : Type} {wu : S → va_W} {post : Int32 → S → Prop} (C : Cx x cc tb nL own (c0 :: WW) rm) (i pc : Nat) (hM : ConH (xl x) y (Cond.code y bytes maxL (some .char) :: WW) rmc (xD x) (xk x) (xg x) (.ref (xg x (2 + q)) :: As) wc wu post) (hi : tb[i]? = some (pc, .invokevirtual index, 3)) (hg : WW.all goodWord = true) (hh : ∀ w ∈ [Cond.methodLink own index y, .instanceMethod y, .selects y.cls y y, .initialized y.cls], w ∈ WW) (hcode : Cond.code y bytes maxL (some .char) ∈ WW) (n : Nat) (hd : calleeOk WW y n) (hn : As.length = n) (hrm : rmc.frames + 1 ≤ rm.frames ∧ 8 + (maxL + 11) + rmc.locals ≤ rm.locals) (hst : (st.map fun v => v.category).sum ≤ 8) (hcs : ce ≤ rm.cells ∧ sl ≤ rm.slots) (hz : rmc.cells = 0 ∧ rmc.slots = 0) (hws : wc = []) (hyc : y.cls = "java/lang/String") (hq : q < 2) 
    (h : ∀ (r : Int32) (u : S), post r u → Wx x nL ce sl ws lv (pc + 3) (.int r :: st)) : Wx x nL ce sl ws lv pc (As.reverse ++ .ref (xg x (2 + q)) :: st) := by
  obtain ⟨p, l, e, R, s, m, args, below, meth, c, Q, A, D, k, g⟩ := x
  obtain ⟨⟨hx, hb, hml, hown, hts⟩, htb, hR, hA, hK, hlk, hE⟩ := C
  intro H locs ls hP hD hS hl
  subst hR
  subst hws
  have hPc : va_P D vwCl [] H := fun k q h => by simp at h
  have hDc : va_D A [] := ⟨fun i j p q h => by simp at h, fun k q h => by simp at h⟩
  have hKc := hK
  have hFc : ∀ q, va_A [] H.size q → A q := fun q h => by rcases h with ⟨k, e, h⟩ | h; simp at h; exact hA q (Nat.le_trans hS.1 h)
  have hEc : EXT g (va_A [] H.size) s H := (hE.kept (fun a h1 h2 => hS.2.1 a h1 h2)).narrow hFc
  refine va_calli (va_runV (As := As) (rest := st) ⟨hx, hb, hml, hown, hts⟩ (hM H.size) (cwV n hts (good_ww hg hh hcode) rfl rfl rfl ⟨rfl, hd⟩ hrm) ⟨fun a U gf mk q => by obtain ⟨z0, z1, zP, zK, zD, zE⟩ := q; exact ⟨z0, z1, zP, va_K.moved (u := U) (U := U.calling gf mk a) (Vm.Alike.refl U.vm) zK, zD, zE.calling⟩, by rw [hyc]; exact vk_recv (adK := fun i => g (2 + i)) (adV := fun i => g (4 + i)) (i := q) hE.2.2.1.2 hq hS, fun U hU hW => ⟨rfl, by rw [hU], by rw [hU]; exact hPc, va_K.moved hW.alike hKc, hDc.weaken (fun _ _ _ _ => trivial), by rw [hU]; exact hEc.warm hW⟩⟩ rfl hn hl.1 rfl (lv_room hst) (tb_at htb hi) (by rw [hz.1, hz.2]; exact hcs)) hS (fun q _ h => hFc q h) hFc (fun r u t H1 locs1 ht hvm hw hB hz1 hk1 hS1 => ?_)
  obtain ⟨hP1, hD1⟩ := hB
  rw [ht] at hP1
  rw [hz.1, hz.2]
  exact h r u hw H1 locs1 ls (free_kept hP hk1) hD hS1 hl

theorem x_callWVI {x : CT} {cc : ByteArray} {tb : Tb} {nL : Nat} {own : String} {WW : List Cond} {c0 : Cond} {rm : Room} {ce sl : Nat} {ws wc : va_W} {lv : List (Nat × Value)} {st : List Value} {y : MethodName} {bytes : ByteArray} {maxL index : Nat} {rmc : Room} {b : Nat} {As : List Value} {S : Type} {wu : S → va_W} {post : Int32 → S → Prop} (C : Cx x cc tb nL own (c0 :: WW) rm) (i pc : Nat) (hM : ConI (xl x) y (Cond.code y bytes maxL (some .int) :: WW) rmc (xD x) (xk x) (xg x) (.ref b :: As) wc wu post) (hi : tb[i]? = some (pc, .invokevirtual index, 3)) (hg : WW.all goodWord = true) (hh : ∀ w ∈ [Cond.methodLink own index y, .instanceMethod y, .selects y.cls y y, .initialized y.cls], w ∈ WW) (hcode : Cond.code y bytes maxL (some .int) ∈ WW) (n : Nat) (hd : calleeOk WW y n) (hn : As.length = n) (hrm : rmc.frames + 1 ≤ rm.frames ∧ 8 + (maxL + 11) + rmc.locals ≤ rm.locals) (hst : (st.map fun v => v.category).sum ≤ 8) (hcs : ce ≤ rm.cells ∧ sl ≤ rm.slots) (hz : rmc.cells = 0 ∧ rmc.slots = 0) {ci q0 : Nat} {q : vw_C} {fs : List Value} (hci : vwCl[ci]? = some (y.cls, q.2)) (he : wc[q0]? = some (b, .inr (ci, fs))) (hws : wc = ws)
    (h : ∀ (r : Int32) (u : S), post r u → Wx x nL ce sl (wu u) lv (pc + 3) (.int r :: st)) : Wx x nL ce sl ws lv pc (As.reverse ++ .ref b :: st) := by
  obtain ⟨p, l, e, R, s, m, args, below, meth, c, Q, A, D, k, g⟩ := x
  obtain ⟨⟨hx, hb, hml, hown, hts⟩, htb, hR, hA, hK, hlk, hE⟩ := C
  intro H locs ls hP hD hS hl
  subst hR
  subst hws
  have hPc := hP
  have hDc := hD
  have hKc := hK
  have hFc : ∀ q, va_A wc H.size q → A q := fun q h => by rcases h with ⟨k, e, h⟩ | h; exact hD.2 k (q, e) h; exact hA q (Nat.le_trans hS.1 h)
  have hEc : EXT g (va_A wc H.size) s H := (hE.kept (fun a h1 h2 => hS.2.1 a h1 h2)).narrow hFc
  refine va_calli (va_runV (As := As) (rest := st) ⟨hx, hb, hml, hown, hts⟩ (hM H.size) (cwV n hts (good_ww hg hh hcode) rfl rfl rfl ⟨rfl, hd⟩ hrm) ⟨fun a U gf mk q => by obtain ⟨z0, z1, zP, zK, zD, zE⟩ := q; exact ⟨z0, z1, zP, va_K.moved (u := U) (U := U.calling gf mk a) (Vm.Alike.refl U.vm) zK, zD, zE.calling⟩, va_recv hKc hPc (ci := ci) (q0 := q0) hci he, fun U hU hW => ⟨rfl, by rw [hU], by rw [hU]; exact hPc, va_K.moved hW.alike hKc, hDc.weaken (fun _ _ _ _ => trivial), by rw [hU]; exact hEc.warm hW⟩⟩ rfl hn hl.1 rfl (lv_room hst) (tb_at htb hi) (by rw [hz.1, hz.2]; exact hcs)) hS (fun q _ h => hFc q h) hFc (fun r u t H1 locs1 ht hvm hw hB hz1 hk1 hS1 => ?_)
  obtain ⟨hP1, hD1⟩ := hB
  rw [ht] at hP1
  rw [hz.1, hz.2]
  exact h r u hw H1 locs1 ls hP1 (hD1.weaken (fun _ q _ h => hFc q.1 h)) hS1 hl

theorem x_callWSI {x : CT} {cc : ByteArray} {tb : Tb} {nL : Nat} {own : String} {WW : List Cond} {c0 : Cond} {rm : Room} {ce sl : Nat} {ws wc : va_W} {lv : List (Nat × Value)} {st : List Value} {y : MethodName} {bytes : ByteArray} {maxL index : Nat} {rmc : Room} {As : List Value} {S : Type} {wu : S → va_W} {post : Int32 → S → Prop} (C : Cx x cc tb nL own (c0 :: WW) rm) (i pc : Nat) (hM : ConI (xl x) y (Cond.code y bytes maxL (some .int) :: WW) rmc (xD x) (xk x) (xg x) As wc wu post) (hi : tb[i]? = some (pc, .invokestatic index, 3)) (hg : WW.all goodWord = true) (hh : ∀ w ∈ [Cond.methodLink own index y, .static y, .initialized y.cls], w ∈ WW) (hcode : Cond.code y bytes maxL (some .int) ∈ WW) (n : Nat) (hd : calleeOk WW y n) (hn : As.length = n) (hrm : rmc.frames + 1 ≤ rm.frames ∧ 8 + (maxL + 11) + rmc.locals ≤ rm.locals) (hst : (st.map fun v => v.category).sum ≤ 8) (hcs : ce ≤ rm.cells ∧ sl ≤ rm.slots) (hz : rmc.cells = 0 ∧ rmc.slots = 0) (hws : wc = ws)
    (h : ∀ (r : Int32) (u : S), post r u → Wx x nL ce sl (wu u) lv (pc + 3) (.int r :: st)) : Wx x nL ce sl ws lv pc (As.reverse ++ st) := by
  obtain ⟨p, l, e, R, s, m, args, below, meth, c, Q, A, D, k, g⟩ := x
  obtain ⟨⟨hx, hb, hml, hown, hts⟩, htb, hR, hA, hK, hlk, hE⟩ := C
  intro H locs ls hP hD hS hl
  subst hR
  subst hws
  have hPc := hP
  have hDc := hD
  have hKc := hK
  have hFc : ∀ q, va_A wc H.size q → A q := fun q h => by rcases h with ⟨k, e, h⟩ | h; exact hD.2 k (q, e) h; exact hA q (Nat.le_trans hS.1 h)
  have hEc : EXT g (va_A wc H.size) s H := (hE.kept (fun a h1 h2 => hS.2.1 a h1 h2)).narrow hFc
  refine va_calli (va_runS (As := As) (rest := st) ⟨hx, hb, hml, hown, hts⟩ (hM H.size) (va_cwS n hts (good_ww hg hh hcode) rfl rfl rfl hd hrm) ⟨fun a U gf mk q => by obtain ⟨z0, z1, zP, zK, zD, zE⟩ := q; exact ⟨z0, z1, zP, va_K.moved (u := U) (U := U.calling gf mk a) (Vm.Alike.refl U.vm) zK, zD, zE.calling⟩, fun U hU hW => ⟨rfl, by rw [hU], by rw [hU]; exact hPc, va_K.moved hW.alike hKc, hDc.weaken (fun _ _ _ _ => trivial), by rw [hU]; exact hEc.warm hW⟩⟩ rfl hn hl.1 rfl (lv_room hst) (tb_at htb hi) (by rw [hz.1, hz.2]; exact hcs)) hS (fun q _ h => hFc q h) hFc (fun r u t H1 locs1 ht hvm hw hB hz1 hk1 hS1 => ?_)
  obtain ⟨hP1, hD1⟩ := hB
  rw [ht] at hP1
  rw [hz.1, hz.2]
  exact h r u hw H1 locs1 ls hP1 (hD1.weaken (fun _ q _ h => hFc q.1 h)) hS1 hl

theorem x_call0SI {x : CT} {cc : ByteArray} {tb : Tb} {nL : Nat} {own : String} {WW : List Cond} {c0 : Cond} {rm : Room} {ce sl : Nat} {ws wc : va_W} {lv : List (Nat × Value)} {st : List Value} {y : MethodName} {bytes : ByteArray} {maxL index : Nat} {rmc : Room} {As : List Value} {S : Type} {wu : S → va_W} {post : Int32 → S → Prop} (C : Cx x cc tb nL own (c0 :: WW) rm) (i pc : Nat) (hM : ConI (xl x) y (Cond.code y bytes maxL (some .int) :: WW) rmc (xD x) (xk x) (xg x) As wc wu post) (hi : tb[i]? = some (pc, .invokestatic index, 3)) (hg : WW.all goodWord = true) (hh : ∀ w ∈ [Cond.methodLink own index y, .static y, .initialized y.cls], w ∈ WW) (hcode : Cond.code y bytes maxL (some .int) ∈ WW) (n : Nat) (hd : calleeOk WW y n) (hn : As.length = n) (hrm : rmc.frames + 1 ≤ rm.frames ∧ 8 + (maxL + 11) + rmc.locals ≤ rm.locals) (hst : (st.map fun v => v.category).sum ≤ 8) (hcs : ce ≤ rm.cells ∧ sl ≤ rm.slots) (hz : rmc.cells = 0 ∧ rmc.slots = 0) (hws : wc = []) 
    (h : ∀ (r : Int32) (u : S), post r u → Wx x nL ce sl ws lv (pc + 3) (.int r :: st)) : Wx x nL ce sl ws lv pc (As.reverse ++ st) := by
  obtain ⟨p, l, e, R, s, m, args, below, meth, c, Q, A, D, k, g⟩ := x
  obtain ⟨⟨hx, hb, hml, hown, hts⟩, htb, hR, hA, hK, hlk, hE⟩ := C
  intro H locs ls hP hD hS hl
  subst hR
  subst hws
  have hPc : va_P D vwCl [] H := fun k q h => by simp at h
  have hDc : va_D A [] := ⟨fun i j p q h => by simp at h, fun k q h => by simp at h⟩
  have hKc := hK
  have hFc : ∀ q, va_A [] H.size q → A q := fun q h => by rcases h with ⟨k, e, h⟩ | h; simp at h; exact hA q (Nat.le_trans hS.1 h)
  have hEc : EXT g (va_A [] H.size) s H := (hE.kept (fun a h1 h2 => hS.2.1 a h1 h2)).narrow hFc
  refine va_calli (va_runS (As := As) (rest := st) ⟨hx, hb, hml, hown, hts⟩ (hM H.size) (va_cwS n hts (good_ww hg hh hcode) rfl rfl rfl hd hrm) ⟨fun a U gf mk q => by obtain ⟨z0, z1, zP, zK, zD, zE⟩ := q; exact ⟨z0, z1, zP, va_K.moved (u := U) (U := U.calling gf mk a) (Vm.Alike.refl U.vm) zK, zD, zE.calling⟩, fun U hU hW => ⟨rfl, by rw [hU], by rw [hU]; exact hPc, va_K.moved hW.alike hKc, hDc.weaken (fun _ _ _ _ => trivial), by rw [hU]; exact hEc.warm hW⟩⟩ rfl hn hl.1 rfl (lv_room hst) (tb_at htb hi) (by rw [hz.1, hz.2]; exact hcs)) hS (fun q _ h => hFc q h) hFc (fun r u t H1 locs1 ht hvm hw hB hz1 hk1 hS1 => ?_)
  obtain ⟨hP1, hD1⟩ := hB
  rw [ht] at hP1
  rw [hz.1, hz.2]
  exact h r u hw H1 locs1 ls (free_kept hP hk1) hD hS1 hl

theorem x_call0EI {x : CT} {cc : ByteArray} {tb : Tb} {nL : Nat} {own : String} {WW : List Cond} {c0 : Cond} {rm : Room} {ce sl : Nat} {ws wc : va_W} {lv : List (Nat × Value)} {st : List Value} {y : MethodName} {bytes : ByteArray} {maxL index : Nat} {rmc : Room} {q : Nat} {As : List Value} {S : Type} {wu : S → va_W} {post : Int32 → S → Prop} (C : Cx x cc tb nL own (c0 :: WW) rm) (i pc : Nat) (hM : ConI (xl x) y (Cond.code y bytes maxL (some .int) :: WW) rmc (xD x) (xk x) (xg x) (.ref (xg x (2 + q)) :: As) wc wu post) (hi : tb[i]? = some (pc, .invokevirtual index, 3)) (hg : WW.all goodWord = true) (hh : ∀ w ∈ [Cond.methodLink own index y, .instanceMethod y, .selects y.cls y y, .initialized y.cls], w ∈ WW) (hcode : Cond.code y bytes maxL (some .int) ∈ WW) (n : Nat) (hd : calleeOk WW y n) (hn : As.length = n) (hrm : rmc.frames + 1 ≤ rm.frames ∧ 8 + (maxL + 11) + rmc.locals ≤ rm.locals) (hst : (st.map fun v => v.category).sum ≤ 8) (hcs : ce ≤ rm.cells ∧ sl ≤ rm.slots) (hz : rmc.cells = 0 ∧ rmc.slots = 0) (hws : wc = []) (hyc : y.cls = "java/lang/String") (hq : q < 2) 
    (h : ∀ (r : Int32) (u : S), post r u → Wx x nL ce sl ws lv (pc + 3) (.int r :: st)) : Wx x nL ce sl ws lv pc (As.reverse ++ .ref (xg x (2 + q)) :: st) := by
  obtain ⟨p, l, e, R, s, m, args, below, meth, c, Q, A, D, k, g⟩ := x
  obtain ⟨⟨hx, hb, hml, hown, hts⟩, htb, hR, hA, hK, hlk, hE⟩ := C
  intro H locs ls hP hD hS hl
  subst hR
  subst hws
  have hPc : va_P D vwCl [] H := fun k q h => by simp at h
  have hDc : va_D A [] := ⟨fun i j p q h => by simp at h, fun k q h => by simp at h⟩
  have hKc := hK
  have hFc : ∀ q, va_A [] H.size q → A q := fun q h => by rcases h with ⟨k, e, h⟩ | h; simp at h; exact hA q (Nat.le_trans hS.1 h)
  have hEc : EXT g (va_A [] H.size) s H := (hE.kept (fun a h1 h2 => hS.2.1 a h1 h2)).narrow hFc
  refine va_calli (va_runV (As := As) (rest := st) ⟨hx, hb, hml, hown, hts⟩ (hM H.size) (cwV n hts (good_ww hg hh hcode) rfl rfl rfl ⟨rfl, hd⟩ hrm) ⟨fun a U gf mk q => by obtain ⟨z0, z1, zP, zK, zD, zE⟩ := q; exact ⟨z0, z1, zP, va_K.moved (u := U) (U := U.calling gf mk a) (Vm.Alike.refl U.vm) zK, zD, zE.calling⟩, by rw [hyc]; exact vk_recv (adK := fun i => g (2 + i)) (adV := fun i => g (4 + i)) (i := q) hE.2.2.1.2 hq hS, fun U hU hW => ⟨rfl, by rw [hU], by rw [hU]; exact hPc, va_K.moved hW.alike hKc, hDc.weaken (fun _ _ _ _ => trivial), by rw [hU]; exact hEc.warm hW⟩⟩ rfl hn hl.1 rfl (lv_room hst) (tb_at htb hi) (by rw [hz.1, hz.2]; exact hcs)) hS (fun q _ h => hFc q h) hFc (fun r u t H1 locs1 ht hvm hw hB hz1 hk1 hS1 => ?_)
  obtain ⟨hP1, hD1⟩ := hB
  rw [ht] at hP1
  rw [hz.1, hz.2]
  exact h r u hw H1 locs1 ls (free_kept hP hk1) hD hS1 hl

theorem x_callWVZ {x : CT} {cc : ByteArray} {tb : Tb} {nL : Nat} {own : String} {WW : List Cond} {c0 : Cond} {rm : Room} {ce sl : Nat} {ws wc : va_W} {lv : List (Nat × Value)} {st : List Value} {y : MethodName} {bytes : ByteArray} {maxL index : Nat} {rmc : Room} {b : Nat} {As : List Value} {S : Type} {wu : S → va_W} {post : Int32 → S → Prop} (C : Cx x cc tb nL own (c0 :: WW) rm) (i pc : Nat) (hM : ConZ (xl x) y (Cond.code y bytes maxL (some .boolean) :: WW) rmc (xD x) (xk x) (xg x) (.ref b :: As) wc wu post) (hi : tb[i]? = some (pc, .invokevirtual index, 3)) (hg : WW.all goodWord = true) (hh : ∀ w ∈ [Cond.methodLink own index y, .instanceMethod y, .selects y.cls y y, .initialized y.cls], w ∈ WW) (hcode : Cond.code y bytes maxL (some .boolean) ∈ WW) (n : Nat) (hd : calleeOk WW y n) (hn : As.length = n) (hrm : rmc.frames + 1 ≤ rm.frames ∧ 8 + (maxL + 11) + rmc.locals ≤ rm.locals) (hst : (st.map fun v => v.category).sum ≤ 8) (hcs : ce ≤ rm.cells ∧ sl ≤ rm.slots) (hz : rmc.cells = 0 ∧ rmc.slots = 0) {ci q0 : Nat} {q : vw_C} {fs : List Value} (hci : vwCl[ci]? = some (y.cls, q.2)) (he : wc[q0]? = some (b, .inr (ci, fs))) (hws : wc = ws)
    (h : ∀ (r : Int32) (u : S), post r u → Wx x nL ce sl (wu u) lv (pc + 3) (.int r :: st)) : Wx x nL ce sl ws lv pc (As.reverse ++ .ref b :: st) := by
  obtain ⟨p, l, e, R, s, m, args, below, meth, c, Q, A, D, k, g⟩ := x
  obtain ⟨⟨hx, hb, hml, hown, hts⟩, htb, hR, hA, hK, hlk, hE⟩ := C
  intro H locs ls hP hD hS hl
  subst hR
  subst hws
  have hPc := hP
  have hDc := hD
  have hKc := hK
  have hFc : ∀ q, va_A wc H.size q → A q := fun q h => by rcases h with ⟨k, e, h⟩ | h; exact hD.2 k (q, e) h; exact hA q (Nat.le_trans hS.1 h)
  have hEc : EXT g (va_A wc H.size) s H := (hE.kept (fun a h1 h2 => hS.2.1 a h1 h2)).narrow hFc
  refine va_calli (va_runV (As := As) (rest := st) ⟨hx, hb, hml, hown, hts⟩ (hM H.size) (cwV n hts (good_ww hg hh hcode) rfl rfl rfl ⟨rfl, hd⟩ hrm) ⟨fun a U gf mk q => by obtain ⟨z0, z1, zP, zK, zD, zE⟩ := q; exact ⟨z0, z1, zP, va_K.moved (u := U) (U := U.calling gf mk a) (Vm.Alike.refl U.vm) zK, zD, zE.calling⟩, va_recv hKc hPc (ci := ci) (q0 := q0) hci he, fun U hU hW => ⟨rfl, by rw [hU], by rw [hU]; exact hPc, va_K.moved hW.alike hKc, hDc.weaken (fun _ _ _ _ => trivial), by rw [hU]; exact hEc.warm hW⟩⟩ rfl hn hl.1 rfl (lv_room hst) (tb_at htb hi) (by rw [hz.1, hz.2]; exact hcs)) hS (fun q _ h => hFc q h) hFc (fun r u t H1 locs1 ht hvm hw hB hz1 hk1 hS1 => ?_)
  obtain ⟨hP1, hD1⟩ := hB
  rw [ht] at hP1
  rw [hz.1, hz.2]
  exact h r u hw H1 locs1 ls hP1 (hD1.weaken (fun _ q _ h => hFc q.1 h)) hS1 hl

theorem x_callWSZ {x : CT} {cc : ByteArray} {tb : Tb} {nL : Nat} {own : String} {WW : List Cond} {c0 : Cond} {rm : Room} {ce sl : Nat} {ws wc : va_W} {lv : List (Nat × Value)} {st : List Value} {y : MethodName} {bytes : ByteArray} {maxL index : Nat} {rmc : Room} {As : List Value} {S : Type} {wu : S → va_W} {post : Int32 → S → Prop} (C : Cx x cc tb nL own (c0 :: WW) rm) (i pc : Nat) (hM : ConZ (xl x) y (Cond.code y bytes maxL (some .boolean) :: WW) rmc (xD x) (xk x) (xg x) As wc wu post) (hi : tb[i]? = some (pc, .invokestatic index, 3)) (hg : WW.all goodWord = true) (hh : ∀ w ∈ [Cond.methodLink own index y, .static y, .initialized y.cls], w ∈ WW) (hcode : Cond.code y bytes maxL (some .boolean) ∈ WW) (n : Nat) (hd : calleeOk WW y n) (hn : As.length = n) (hrm : rmc.frames + 1 ≤ rm.frames ∧ 8 + (maxL + 11) + rmc.locals ≤ rm.locals) (hst : (st.map fun v => v.category).sum ≤ 8) (hcs : ce ≤ rm.cells ∧ sl ≤ rm.slots) (hz : rmc.cells = 0 ∧ rmc.slots = 0) (hws : wc = ws)
    (h : ∀ (r : Int32) (u : S), post r u → Wx x nL ce sl (wu u) lv (pc + 3) (.int r :: st)) : Wx x nL ce sl ws lv pc (As.reverse ++ st) := by
  obtain ⟨p, l, e, R, s, m, args, below, meth, c, Q, A, D, k, g⟩ := x
  obtain ⟨⟨hx, hb, hml, hown, hts⟩, htb, hR, hA, hK, hlk, hE⟩ := C
  intro H locs ls hP hD hS hl
  subst hR
  subst hws
  have hPc := hP
  have hDc := hD
  have hKc := hK
  have hFc : ∀ q, va_A wc H.size q → A q := fun q h => by rcases h with ⟨k, e, h⟩ | h; exact hD.2 k (q, e) h; exact hA q (Nat.le_trans hS.1 h)
  have hEc : EXT g (va_A wc H.size) s H := (hE.kept (fun a h1 h2 => hS.2.1 a h1 h2)).narrow hFc
  refine va_calli (va_runS (As := As) (rest := st) ⟨hx, hb, hml, hown, hts⟩ (hM H.size) (va_cwS n hts (good_ww hg hh hcode) rfl rfl rfl hd hrm) ⟨fun a U gf mk q => by obtain ⟨z0, z1, zP, zK, zD, zE⟩ := q; exact ⟨z0, z1, zP, va_K.moved (u := U) (U := U.calling gf mk a) (Vm.Alike.refl U.vm) zK, zD, zE.calling⟩, fun U hU hW => ⟨rfl, by rw [hU], by rw [hU]; exact hPc, va_K.moved hW.alike hKc, hDc.weaken (fun _ _ _ _ => trivial), by rw [hU]; exact hEc.warm hW⟩⟩ rfl hn hl.1 rfl (lv_room hst) (tb_at htb hi) (by rw [hz.1, hz.2]; exact hcs)) hS (fun q _ h => hFc q h) hFc (fun r u t H1 locs1 ht hvm hw hB hz1 hk1 hS1 => ?_)
  obtain ⟨hP1, hD1⟩ := hB
  rw [ht] at hP1
  rw [hz.1, hz.2]
  exact h r u hw H1 locs1 ls hP1 (hD1.weaken (fun _ q _ h => hFc q.1 h)) hS1 hl

theorem x_call0SZ {x : CT} {cc : ByteArray} {tb : Tb} {nL : Nat} {own : String} {WW : List Cond} {c0 : Cond} {rm : Room} {ce sl : Nat} {ws wc : va_W} {lv : List (Nat × Value)} {st : List Value} {y : MethodName} {bytes : ByteArray} {maxL index : Nat} {rmc : Room} {As : List Value} {S : Type} {wu : S → va_W} {post : Int32 → S → Prop} (C : Cx x cc tb nL own (c0 :: WW) rm) (i pc : Nat) (hM : ConZ (xl x) y (Cond.code y bytes maxL (some .boolean) :: WW) rmc (xD x) (xk x) (xg x) As wc wu post) (hi : tb[i]? = some (pc, .invokestatic index, 3)) (hg : WW.all goodWord = true) (hh : ∀ w ∈ [Cond.methodLink own index y, .static y, .initialized y.cls], w ∈ WW) (hcode : Cond.code y bytes maxL (some .boolean) ∈ WW) (n : Nat) (hd : calleeOk WW y n) (hn : As.length = n) (hrm : rmc.frames + 1 ≤ rm.frames ∧ 8 + (maxL + 11) + rmc.locals ≤ rm.locals) (hst : (st.map fun v => v.category).sum ≤ 8) (hcs : ce ≤ rm.cells ∧ sl ≤ rm.slots) (hz : rmc.cells = 0 ∧ rmc.slots = 0) (hws : wc = []) 
    (h : ∀ (r : Int32) (u : S), post r u → Wx x nL ce sl ws lv (pc + 3) (.int r :: st)) : Wx x nL ce sl ws lv pc (As.reverse ++ st) := by
  obtain ⟨p, l, e, R, s, m, args, below, meth, c, Q, A, D, k, g⟩ := x
  obtain ⟨⟨hx, hb, hml, hown, hts⟩, htb, hR, hA, hK, hlk, hE⟩ := C
  intro H locs ls hP hD hS hl
  subst hR
  subst hws
  have hPc : va_P D vwCl [] H := fun k q h => by simp at h
  have hDc : va_D A [] := ⟨fun i j p q h => by simp at h, fun k q h => by simp at h⟩
  have hKc := hK
  have hFc : ∀ q, va_A [] H.size q → A q := fun q h => by rcases h with ⟨k, e, h⟩ | h; simp at h; exact hA q (Nat.le_trans hS.1 h)
  have hEc : EXT g (va_A [] H.size) s H := (hE.kept (fun a h1 h2 => hS.2.1 a h1 h2)).narrow hFc
  refine va_calli (va_runS (As := As) (rest := st) ⟨hx, hb, hml, hown, hts⟩ (hM H.size) (va_cwS n hts (good_ww hg hh hcode) rfl rfl rfl hd hrm) ⟨fun a U gf mk q => by obtain ⟨z0, z1, zP, zK, zD, zE⟩ := q; exact ⟨z0, z1, zP, va_K.moved (u := U) (U := U.calling gf mk a) (Vm.Alike.refl U.vm) zK, zD, zE.calling⟩, fun U hU hW => ⟨rfl, by rw [hU], by rw [hU]; exact hPc, va_K.moved hW.alike hKc, hDc.weaken (fun _ _ _ _ => trivial), by rw [hU]; exact hEc.warm hW⟩⟩ rfl hn hl.1 rfl (lv_room hst) (tb_at htb hi) (by rw [hz.1, hz.2]; exact hcs)) hS (fun q _ h => hFc q h) hFc (fun r u t H1 locs1 ht hvm hw hB hz1 hk1 hS1 => ?_)
  obtain ⟨hP1, hD1⟩ := hB
  rw [ht] at hP1
  rw [hz.1, hz.2]
  exact h r u hw H1 locs1 ls (free_kept hP hk1) hD hS1 hl

theorem x_call0EZ {x : CT} {cc : ByteArray} {tb : Tb} {nL : Nat} {own : String} {WW : List Cond} {c0 : Cond} {rm : Room} {ce sl : Nat} {ws wc : va_W} {lv : List (Nat × Value)} {st : List Value} {y : MethodName} {bytes : ByteArray} {maxL index : Nat} {rmc : Room} {q : Nat} {As : List Value} {S : Type} {wu : S → va_W} {post : Int32 → S → Prop} (C : Cx x cc tb nL own (c0 :: WW) rm) (i pc : Nat) (hM : ConZ (xl x) y (Cond.code y bytes maxL (some .boolean) :: WW) rmc (xD x) (xk x) (xg x) (.ref (xg x (2 + q)) :: As) wc wu post) (hi : tb[i]? = some (pc, .invokevirtual index, 3)) (hg : WW.all goodWord = true) (hh : ∀ w ∈ [Cond.methodLink own index y, .instanceMethod y, .selects y.cls y y, .initialized y.cls], w ∈ WW) (hcode : Cond.code y bytes maxL (some .boolean) ∈ WW) (n : Nat) (hd : calleeOk WW y n) (hn : As.length = n) (hrm : rmc.frames + 1 ≤ rm.frames ∧ 8 + (maxL + 11) + rmc.locals ≤ rm.locals) (hst : (st.map fun v => v.category).sum ≤ 8) (hcs : ce ≤ rm.cells ∧ sl ≤ rm.slots) (hz : rmc.cells = 0 ∧ rmc.slots = 0) (hws : wc = []) (hyc : y.cls = "java/lang/String") (hq : q < 2) 
    (h : ∀ (r : Int32) (u : S), post r u → Wx x nL ce sl ws lv (pc + 3) (.int r :: st)) : Wx x nL ce sl ws lv pc (As.reverse ++ .ref (xg x (2 + q)) :: st) := by
  obtain ⟨p, l, e, R, s, m, args, below, meth, c, Q, A, D, k, g⟩ := x
  obtain ⟨⟨hx, hb, hml, hown, hts⟩, htb, hR, hA, hK, hlk, hE⟩ := C
  intro H locs ls hP hD hS hl
  subst hR
  subst hws
  have hPc : va_P D vwCl [] H := fun k q h => by simp at h
  have hDc : va_D A [] := ⟨fun i j p q h => by simp at h, fun k q h => by simp at h⟩
  have hKc := hK
  have hFc : ∀ q, va_A [] H.size q → A q := fun q h => by rcases h with ⟨k, e, h⟩ | h; simp at h; exact hA q (Nat.le_trans hS.1 h)
  have hEc : EXT g (va_A [] H.size) s H := (hE.kept (fun a h1 h2 => hS.2.1 a h1 h2)).narrow hFc
  refine va_calli (va_runV (As := As) (rest := st) ⟨hx, hb, hml, hown, hts⟩ (hM H.size) (cwV n hts (good_ww hg hh hcode) rfl rfl rfl ⟨rfl, hd⟩ hrm) ⟨fun a U gf mk q => by obtain ⟨z0, z1, zP, zK, zD, zE⟩ := q; exact ⟨z0, z1, zP, va_K.moved (u := U) (U := U.calling gf mk a) (Vm.Alike.refl U.vm) zK, zD, zE.calling⟩, by rw [hyc]; exact vk_recv (adK := fun i => g (2 + i)) (adV := fun i => g (4 + i)) (i := q) hE.2.2.1.2 hq hS, fun U hU hW => ⟨rfl, by rw [hU], by rw [hU]; exact hPc, va_K.moved hW.alike hKc, hDc.weaken (fun _ _ _ _ => trivial), by rw [hU]; exact hEc.warm hW⟩⟩ rfl hn hl.1 rfl (lv_room hst) (tb_at htb hi) (by rw [hz.1, hz.2]; exact hcs)) hS (fun q _ h => hFc q h) hFc (fun r u t H1 locs1 ht hvm hw hB hz1 hk1 hS1 => ?_)
  obtain ⟨hP1, hD1⟩ := hB
  rw [ht] at hP1
  rw [hz.1, hz.2]
  exact h r u hw H1 locs1 ls (free_kept hP hk1) hD hS1 hl

theorem x_callWVL {x : CT} {cc : ByteArray} {tb : Tb} {nL : Nat} {own : String} {WW : List Cond} {c0 : Cond} {rm : Room} {ce sl : Nat} {ws wc : va_W} {lv : List (Nat × Value)} {st : List Value} {y : MethodName} {bytes : ByteArray} {maxL index : Nat} {rmc : Room} {b : Nat} {As : List Value} {S : Type} {wu : S → va_W} {post : Int64 → S → Prop} (C : Cx x cc tb nL own (c0 :: WW) rm) (i pc : Nat) (hM : ConL (xl x) y (Cond.code y bytes maxL (some .long) :: WW) rmc (xD x) (xk x) (xg x) (.ref b :: As) wc wu post) (hi : tb[i]? = some (pc, .invokevirtual index, 3)) (hg : WW.all goodWord = true) (hh : ∀ w ∈ [Cond.methodLink own index y, .instanceMethod y, .selects y.cls y y, .initialized y.cls], w ∈ WW) (hcode : Cond.code y bytes maxL (some .long) ∈ WW) (n : Nat) (hd : calleeOk WW y n) (hn : As.length = n) (hrm : rmc.frames + 1 ≤ rm.frames ∧ 8 + (maxL + 11) + rmc.locals ≤ rm.locals) (hst : (st.map fun v => v.category).sum ≤ 8) (hcs : ce ≤ rm.cells ∧ sl ≤ rm.slots) (hz : rmc.cells = 0 ∧ rmc.slots = 0) {ci q0 : Nat} {q : vw_C} {fs : List Value} (hci : vwCl[ci]? = some (y.cls, q.2)) (he : wc[q0]? = some (b, .inr (ci, fs))) (hws : wc = ws)
    (h : ∀ (r : Int64) (u : S), post r u → Wx x nL ce sl (wu u) lv (pc + 3) (.long r :: st)) : Wx x nL ce sl ws lv pc (As.reverse ++ .ref b :: st) := by
  obtain ⟨p, l, e, R, s, m, args, below, meth, c, Q, A, D, k, g⟩ := x
  obtain ⟨⟨hx, hb, hml, hown, hts⟩, htb, hR, hA, hK, hlk, hE⟩ := C
  intro H locs ls hP hD hS hl
  subst hR
  subst hws
  have hPc := hP
  have hDc := hD
  have hKc := hK
  have hFc : ∀ q, va_A wc H.size q → A q := fun q h => by rcases h with ⟨k, e, h⟩ | h; exact hD.2 k (q, e) h; exact hA q (Nat.le_trans hS.1 h)
  have hEc : EXT g (va_A wc H.size) s H := (hE.kept (fun a h1 h2 => hS.2.1 a h1 h2)).narrow hFc
  refine va_calll (va_runV (As := As) (rest := st) ⟨hx, hb, hml, hown, hts⟩ (hM H.size) (cwV n hts (good_ww hg hh hcode) rfl rfl rfl ⟨rfl, hd⟩ hrm) ⟨fun a U gf mk q => by obtain ⟨z0, z1, zP, zK, zD, zE⟩ := q; exact ⟨z0, z1, zP, va_K.moved (u := U) (U := U.calling gf mk a) (Vm.Alike.refl U.vm) zK, zD, zE.calling⟩, va_recv hKc hPc (ci := ci) (q0 := q0) hci he, fun U hU hW => ⟨rfl, by rw [hU], by rw [hU]; exact hPc, va_K.moved hW.alike hKc, hDc.weaken (fun _ _ _ _ => trivial), by rw [hU]; exact hEc.warm hW⟩⟩ rfl hn hl.1 rfl (lv_room hst) (tb_at htb hi) (by rw [hz.1, hz.2]; exact hcs)) hS (fun q _ h => hFc q h) hFc (fun r u t H1 locs1 ht hvm hw hB hz1 hk1 hS1 => ?_)
  obtain ⟨hP1, hD1⟩ := hB
  rw [ht] at hP1
  rw [hz.1, hz.2]
  exact h r u hw H1 locs1 ls hP1 (hD1.weaken (fun _ q _ h => hFc q.1 h)) hS1 hl

theorem x_callWSL {x : CT} {cc : ByteArray} {tb : Tb} {nL : Nat} {own : String} {WW : List Cond} {c0 : Cond} {rm : Room} {ce sl : Nat} {ws wc : va_W} {lv : List (Nat × Value)} {st : List Value} {y : MethodName} {bytes : ByteArray} {maxL index : Nat} {rmc : Room} {As : List Value} {S : Type} {wu : S → va_W} {post : Int64 → S → Prop} (C : Cx x cc tb nL own (c0 :: WW) rm) (i pc : Nat) (hM : ConL (xl x) y (Cond.code y bytes maxL (some .long) :: WW) rmc (xD x) (xk x) (xg x) As wc wu post) (hi : tb[i]? = some (pc, .invokestatic index, 3)) (hg : WW.all goodWord = true) (hh : ∀ w ∈ [Cond.methodLink own index y, .static y, .initialized y.cls], w ∈ WW) (hcode : Cond.code y bytes maxL (some .long) ∈ WW) (n : Nat) (hd : calleeOk WW y n) (hn : As.length = n) (hrm : rmc.frames + 1 ≤ rm.frames ∧ 8 + (maxL + 11) + rmc.locals ≤ rm.locals) (hst : (st.map fun v => v.category).sum ≤ 8) (hcs : ce ≤ rm.cells ∧ sl ≤ rm.slots) (hz : rmc.cells = 0 ∧ rmc.slots = 0) (hws : wc = ws)
    (h : ∀ (r : Int64) (u : S), post r u → Wx x nL ce sl (wu u) lv (pc + 3) (.long r :: st)) : Wx x nL ce sl ws lv pc (As.reverse ++ st) := by
  obtain ⟨p, l, e, R, s, m, args, below, meth, c, Q, A, D, k, g⟩ := x
  obtain ⟨⟨hx, hb, hml, hown, hts⟩, htb, hR, hA, hK, hlk, hE⟩ := C
  intro H locs ls hP hD hS hl
  subst hR
  subst hws
  have hPc := hP
  have hDc := hD
  have hKc := hK
  have hFc : ∀ q, va_A wc H.size q → A q := fun q h => by rcases h with ⟨k, e, h⟩ | h; exact hD.2 k (q, e) h; exact hA q (Nat.le_trans hS.1 h)
  have hEc : EXT g (va_A wc H.size) s H := (hE.kept (fun a h1 h2 => hS.2.1 a h1 h2)).narrow hFc
  refine va_calll (va_runS (As := As) (rest := st) ⟨hx, hb, hml, hown, hts⟩ (hM H.size) (va_cwS n hts (good_ww hg hh hcode) rfl rfl rfl hd hrm) ⟨fun a U gf mk q => by obtain ⟨z0, z1, zP, zK, zD, zE⟩ := q; exact ⟨z0, z1, zP, va_K.moved (u := U) (U := U.calling gf mk a) (Vm.Alike.refl U.vm) zK, zD, zE.calling⟩, fun U hU hW => ⟨rfl, by rw [hU], by rw [hU]; exact hPc, va_K.moved hW.alike hKc, hDc.weaken (fun _ _ _ _ => trivial), by rw [hU]; exact hEc.warm hW⟩⟩ rfl hn hl.1 rfl (lv_room hst) (tb_at htb hi) (by rw [hz.1, hz.2]; exact hcs)) hS (fun q _ h => hFc q h) hFc (fun r u t H1 locs1 ht hvm hw hB hz1 hk1 hS1 => ?_)
  obtain ⟨hP1, hD1⟩ := hB
  rw [ht] at hP1
  rw [hz.1, hz.2]
  exact h r u hw H1 locs1 ls hP1 (hD1.weaken (fun _ q _ h => hFc q.1 h)) hS1 hl

theorem x_call0SL {x : CT} {cc : ByteArray} {tb : Tb} {nL : Nat} {own : String} {WW : List Cond} {c0 : Cond} {rm : Room} {ce sl : Nat} {ws wc : va_W} {lv : List (Nat × Value)} {st : List Value} {y : MethodName} {bytes : ByteArray} {maxL index : Nat} {rmc : Room} {As : List Value} {S : Type} {wu : S → va_W} {post : Int64 → S → Prop} (C : Cx x cc tb nL own (c0 :: WW) rm) (i pc : Nat) (hM : ConL (xl x) y (Cond.code y bytes maxL (some .long) :: WW) rmc (xD x) (xk x) (xg x) As wc wu post) (hi : tb[i]? = some (pc, .invokestatic index, 3)) (hg : WW.all goodWord = true) (hh : ∀ w ∈ [Cond.methodLink own index y, .static y, .initialized y.cls], w ∈ WW) (hcode : Cond.code y bytes maxL (some .long) ∈ WW) (n : Nat) (hd : calleeOk WW y n) (hn : As.length = n) (hrm : rmc.frames + 1 ≤ rm.frames ∧ 8 + (maxL + 11) + rmc.locals ≤ rm.locals) (hst : (st.map fun v => v.category).sum ≤ 8) (hcs : ce ≤ rm.cells ∧ sl ≤ rm.slots) (hz : rmc.cells = 0 ∧ rmc.slots = 0) (hws : wc = []) 
    (h : ∀ (r : Int64) (u : S), post r u → Wx x nL ce sl ws lv (pc + 3) (.long r :: st)) : Wx x nL ce sl ws lv pc (As.reverse ++ st) := by
  obtain ⟨p, l, e, R, s, m, args, below, meth, c, Q, A, D, k, g⟩ := x
  obtain ⟨⟨hx, hb, hml, hown, hts⟩, htb, hR, hA, hK, hlk, hE⟩ := C
  intro H locs ls hP hD hS hl
  subst hR
  subst hws
  have hPc : va_P D vwCl [] H := fun k q h => by simp at h
  have hDc : va_D A [] := ⟨fun i j p q h => by simp at h, fun k q h => by simp at h⟩
  have hKc := hK
  have hFc : ∀ q, va_A [] H.size q → A q := fun q h => by rcases h with ⟨k, e, h⟩ | h; simp at h; exact hA q (Nat.le_trans hS.1 h)
  have hEc : EXT g (va_A [] H.size) s H := (hE.kept (fun a h1 h2 => hS.2.1 a h1 h2)).narrow hFc
  refine va_calll (va_runS (As := As) (rest := st) ⟨hx, hb, hml, hown, hts⟩ (hM H.size) (va_cwS n hts (good_ww hg hh hcode) rfl rfl rfl hd hrm) ⟨fun a U gf mk q => by obtain ⟨z0, z1, zP, zK, zD, zE⟩ := q; exact ⟨z0, z1, zP, va_K.moved (u := U) (U := U.calling gf mk a) (Vm.Alike.refl U.vm) zK, zD, zE.calling⟩, fun U hU hW => ⟨rfl, by rw [hU], by rw [hU]; exact hPc, va_K.moved hW.alike hKc, hDc.weaken (fun _ _ _ _ => trivial), by rw [hU]; exact hEc.warm hW⟩⟩ rfl hn hl.1 rfl (lv_room hst) (tb_at htb hi) (by rw [hz.1, hz.2]; exact hcs)) hS (fun q _ h => hFc q h) hFc (fun r u t H1 locs1 ht hvm hw hB hz1 hk1 hS1 => ?_)
  obtain ⟨hP1, hD1⟩ := hB
  rw [ht] at hP1
  rw [hz.1, hz.2]
  exact h r u hw H1 locs1 ls (free_kept hP hk1) hD hS1 hl

theorem x_callWVV {x : CT} {cc : ByteArray} {tb : Tb} {nL : Nat} {own : String} {WW : List Cond} {c0 : Cond} {rm : Room} {ce sl : Nat} {ws wc : va_W} {lv : List (Nat × Value)} {st : List Value} {y : MethodName} {bytes : ByteArray} {maxL index : Nat} {rmc : Room} {b : Nat} {As : List Value} {S : Type} {wu : S → va_W} {post : S → Prop} (C : Cx x cc tb nL own (c0 :: WW) rm) (i pc : Nat) (hM : ConV (xl x) y (Cond.code y bytes maxL (none) :: WW) rmc (xD x) (xk x) (xg x) (.ref b :: As) wc wu post) (hi : tb[i]? = some (pc, .invokevirtual index, 3)) (hg : WW.all goodWord = true) (hh : ∀ w ∈ [Cond.methodLink own index y, .instanceMethod y, .selects y.cls y y, .initialized y.cls], w ∈ WW) (hcode : Cond.code y bytes maxL (none) ∈ WW) (n : Nat) (hd : calleeOk WW y n) (hn : As.length = n) (hrm : rmc.frames + 1 ≤ rm.frames ∧ 8 + (maxL + 11) + rmc.locals ≤ rm.locals) (hst : (st.map fun v => v.category).sum ≤ 8) (hcs : ce ≤ rm.cells ∧ sl ≤ rm.slots) (hz : rmc.cells = 0 ∧ rmc.slots = 0) {ci q0 : Nat} {q : vw_C} {fs : List Value} (hci : vwCl[ci]? = some (y.cls, q.2)) (he : wc[q0]? = some (b, .inr (ci, fs))) (hws : wc = ws)
    (h : ∀ (u : S), post u → Wx x nL ce sl (wu u) lv (pc + 3) (st)) : Wx x nL ce sl ws lv pc (As.reverse ++ .ref b :: st) := by
  obtain ⟨p, l, e, R, s, m, args, below, meth, c, Q, A, D, k, g⟩ := x
  obtain ⟨⟨hx, hb, hml, hown, hts⟩, htb, hR, hA, hK, hlk, hE⟩ := C
  intro H locs ls hP hD hS hl
  subst hR
  subst hws
  have hPc := hP
  have hDc := hD
  have hKc := hK
  have hFc : ∀ q, va_A wc H.size q → A q := fun q h => by rcases h with ⟨k, e, h⟩ | h; exact hD.2 k (q, e) h; exact hA q (Nat.le_trans hS.1 h)
  have hEc : EXT g (va_A wc H.size) s H := (hE.kept (fun a h1 h2 => hS.2.1 a h1 h2)).narrow hFc
  refine va_callv (va_runV (As := As) (rest := st) ⟨hx, hb, hml, hown, hts⟩ (hM H.size) (cwV n hts (good_ww hg hh hcode) rfl rfl rfl ⟨rfl, hd⟩ hrm) ⟨fun a U gf mk q => by obtain ⟨z0, z1, zP, zK, zD, zE⟩ := q; exact ⟨z0, z1, zP, va_K.moved (u := U) (U := U.calling gf mk a) (Vm.Alike.refl U.vm) zK, zD, zE.calling⟩, va_recv hKc hPc (ci := ci) (q0 := q0) hci he, fun U hU hW => ⟨rfl, by rw [hU], by rw [hU]; exact hPc, va_K.moved hW.alike hKc, hDc.weaken (fun _ _ _ _ => trivial), by rw [hU]; exact hEc.warm hW⟩⟩ rfl hn hl.1 rfl (lv_room hst) (tb_at htb hi) (by rw [hz.1, hz.2]; exact hcs)) hS (fun q _ h => hFc q h) hFc (fun u t H1 locs1 ht hvm hw hB hz1 hk1 hS1 => ?_)
  obtain ⟨hP1, hD1⟩ := hB
  rw [ht] at hP1
  rw [hz.1, hz.2]
  exact h u hw H1 locs1 ls hP1 (hD1.weaken (fun _ q _ h => hFc q.1 h)) hS1 hl

theorem x_callWSV {x : CT} {cc : ByteArray} {tb : Tb} {nL : Nat} {own : String} {WW : List Cond} {c0 : Cond} {rm : Room} {ce sl : Nat} {ws wc : va_W} {lv : List (Nat × Value)} {st : List Value} {y : MethodName} {bytes : ByteArray} {maxL index : Nat} {rmc : Room} {As : List Value} {S : Type} {wu : S → va_W} {post : S → Prop} (C : Cx x cc tb nL own (c0 :: WW) rm) (i pc : Nat) (hM : ConV (xl x) y (Cond.code y bytes maxL (none) :: WW) rmc (xD x) (xk x) (xg x) As wc wu post) (hi : tb[i]? = some (pc, .invokestatic index, 3)) (hg : WW.all goodWord = true) (hh : ∀ w ∈ [Cond.methodLink own index y, .static y, .initialized y.cls], w ∈ WW) (hcode : Cond.code y bytes maxL (none) ∈ WW) (n : Nat) (hd : calleeOk WW y n) (hn : As.length = n) (hrm : rmc.frames + 1 ≤ rm.frames ∧ 8 + (maxL + 11) + rmc.locals ≤ rm.locals) (hst : (st.map fun v => v.category).sum ≤ 8) (hcs : ce ≤ rm.cells ∧ sl ≤ rm.slots) (hz : rmc.cells = 0 ∧ rmc.slots = 0) (hws : wc = ws)
    (h : ∀ (u : S), post u → Wx x nL ce sl (wu u) lv (pc + 3) (st)) : Wx x nL ce sl ws lv pc (As.reverse ++ st) := by
  obtain ⟨p, l, e, R, s, m, args, below, meth, c, Q, A, D, k, g⟩ := x
  obtain ⟨⟨hx, hb, hml, hown, hts⟩, htb, hR, hA, hK, hlk, hE⟩ := C
  intro H locs ls hP hD hS hl
  subst hR
  subst hws
  have hPc := hP
  have hDc := hD
  have hKc := hK
  have hFc : ∀ q, va_A wc H.size q → A q := fun q h => by rcases h with ⟨k, e, h⟩ | h; exact hD.2 k (q, e) h; exact hA q (Nat.le_trans hS.1 h)
  have hEc : EXT g (va_A wc H.size) s H := (hE.kept (fun a h1 h2 => hS.2.1 a h1 h2)).narrow hFc
  refine va_callv (va_runS (As := As) (rest := st) ⟨hx, hb, hml, hown, hts⟩ (hM H.size) (va_cwS n hts (good_ww hg hh hcode) rfl rfl rfl hd hrm) ⟨fun a U gf mk q => by obtain ⟨z0, z1, zP, zK, zD, zE⟩ := q; exact ⟨z0, z1, zP, va_K.moved (u := U) (U := U.calling gf mk a) (Vm.Alike.refl U.vm) zK, zD, zE.calling⟩, fun U hU hW => ⟨rfl, by rw [hU], by rw [hU]; exact hPc, va_K.moved hW.alike hKc, hDc.weaken (fun _ _ _ _ => trivial), by rw [hU]; exact hEc.warm hW⟩⟩ rfl hn hl.1 rfl (lv_room hst) (tb_at htb hi) (by rw [hz.1, hz.2]; exact hcs)) hS (fun q _ h => hFc q h) hFc (fun u t H1 locs1 ht hvm hw hB hz1 hk1 hS1 => ?_)
  obtain ⟨hP1, hD1⟩ := hB
  rw [ht] at hP1
  rw [hz.1, hz.2]
  exact h u hw H1 locs1 ls hP1 (hD1.weaken (fun _ q _ h => hFc q.1 h)) hS1 hl

theorem x_call0SV {x : CT} {cc : ByteArray} {tb : Tb} {nL : Nat} {own : String} {WW : List Cond} {c0 : Cond} {rm : Room} {ce sl : Nat} {ws wc : va_W} {lv : List (Nat × Value)} {st : List Value} {y : MethodName} {bytes : ByteArray} {maxL index : Nat} {rmc : Room} {As : List Value} {S : Type} {wu : S → va_W} {post : S → Prop} (C : Cx x cc tb nL own (c0 :: WW) rm) (i pc : Nat) (hM : ConV (xl x) y (Cond.code y bytes maxL (none) :: WW) rmc (xD x) (xk x) (xg x) As wc wu post) (hi : tb[i]? = some (pc, .invokestatic index, 3)) (hg : WW.all goodWord = true) (hh : ∀ w ∈ [Cond.methodLink own index y, .static y, .initialized y.cls], w ∈ WW) (hcode : Cond.code y bytes maxL (none) ∈ WW) (n : Nat) (hd : calleeOk WW y n) (hn : As.length = n) (hrm : rmc.frames + 1 ≤ rm.frames ∧ 8 + (maxL + 11) + rmc.locals ≤ rm.locals) (hst : (st.map fun v => v.category).sum ≤ 8) (hcs : ce ≤ rm.cells ∧ sl ≤ rm.slots) (hz : rmc.cells = 0 ∧ rmc.slots = 0) (hws : wc = []) 
    (h : ∀ (u : S), post u → Wx x nL ce sl ws lv (pc + 3) (st)) : Wx x nL ce sl ws lv pc (As.reverse ++ st) := by
  obtain ⟨p, l, e, R, s, m, args, below, meth, c, Q, A, D, k, g⟩ := x
  obtain ⟨⟨hx, hb, hml, hown, hts⟩, htb, hR, hA, hK, hlk, hE⟩ := C
  intro H locs ls hP hD hS hl
  subst hR
  subst hws
  have hPc : va_P D vwCl [] H := fun k q h => by simp at h
  have hDc : va_D A [] := ⟨fun i j p q h => by simp at h, fun k q h => by simp at h⟩
  have hKc := hK
  have hFc : ∀ q, va_A [] H.size q → A q := fun q h => by rcases h with ⟨k, e, h⟩ | h; simp at h; exact hA q (Nat.le_trans hS.1 h)
  have hEc : EXT g (va_A [] H.size) s H := (hE.kept (fun a h1 h2 => hS.2.1 a h1 h2)).narrow hFc
  refine va_callv (va_runS (As := As) (rest := st) ⟨hx, hb, hml, hown, hts⟩ (hM H.size) (va_cwS n hts (good_ww hg hh hcode) rfl rfl rfl hd hrm) ⟨fun a U gf mk q => by obtain ⟨z0, z1, zP, zK, zD, zE⟩ := q; exact ⟨z0, z1, zP, va_K.moved (u := U) (U := U.calling gf mk a) (Vm.Alike.refl U.vm) zK, zD, zE.calling⟩, fun U hU hW => ⟨rfl, by rw [hU], by rw [hU]; exact hPc, va_K.moved hW.alike hKc, hDc.weaken (fun _ _ _ _ => trivial), by rw [hU]; exact hEc.warm hW⟩⟩ rfl hn hl.1 rfl (lv_room hst) (tb_at htb hi) (by rw [hz.1, hz.2]; exact hcs)) hS (fun q _ h => hFc q h) hFc (fun u t H1 locs1 ht hvm hw hB hz1 hk1 hS1 => ?_)
  obtain ⟨hP1, hD1⟩ := hB
  rw [ht] at hP1
  rw [hz.1, hz.2]
  exact h u hw H1 locs1 ls (free_kept hP hk1) hD hS1 hl

theorem x_callWIV {x : CT} {cc : ByteArray} {tb : Tb} {nL : Nat} {own : String} {WW : List Cond} {c0 : Cond} {rm : Room} {ce sl : Nat} {ws wc : va_W} {lv : List (Nat × Value)} {st : List Value} {y : MethodName} {bytes : ByteArray} {maxL index : Nat} {rmc : Room} {b : Nat} {As : List Value} {S : Type} {wu : S → va_W} {post : S → Prop} (C : Cx x cc tb nL own (c0 :: WW) rm) (i pc : Nat) (hM : ConV (xl x) y (Cond.code y bytes maxL (none) :: WW) rmc (xD x) (xk x) (xg x) (.ref b :: As) wc wu post) (hi : tb[i]? = some (pc, .invokespecial index, 3)) (hg : WW.all goodWord = true) (hh : ∀ w ∈ [Cond.methodLink own index y, .instanceMethod y, .initialized y.cls], w ∈ WW) (hcode : Cond.code y bytes maxL (none) ∈ WW) (n : Nat) (hd : calleeOk WW y n) (hn : As.length = n) (hrm : rmc.frames + 1 ≤ rm.frames ∧ 8 + (maxL + 11) + rmc.locals ≤ rm.locals) (hst : (st.map fun v => v.category).sum ≤ 8) (hcs : ce + rmc.cells ≤ rm.cells ∧ sl + rmc.slots ≤ rm.slots) (hnm : y.name = "<init>") (hws : wc = ws)
    (h : ∀ (u : S), post u → Wx x nL (ce + rmc.cells) (sl + rmc.slots) (wu u) lv (pc + 3) (st)) : Wx x nL ce sl ws lv pc (As.reverse ++ .ref b :: st) := by
  obtain ⟨p, l, e, R, s, m, args, below, meth, c, Q, A, D, k, g⟩ := x
  obtain ⟨⟨hx, hb, hml, hown, hts⟩, htb, hR, hA, hK, hlk, hE⟩ := C
  intro H locs ls hP hD hS hl
  subst hR
  subst hws
  have hPc := hP
  have hDc := hD
  have hKc := hK
  have hFc : ∀ q, va_A wc H.size q → A q := fun q h => by rcases h with ⟨k, e, h⟩ | h; exact hD.2 k (q, e) h; exact hA q (Nat.le_trans hS.1 h)
  have hEc : EXT g (va_A wc H.size) s H := (hE.kept (fun a h1 h2 => hS.2.1 a h1 h2)).narrow hFc
  refine va_callv (va_runI (As := As) (rest := st) ⟨hx, hb, hml, hown, hts⟩ (hM H.size) (cwI n hts (fun w hw => good_ww hg (hd := []) (fun _ h => absurd h List.not_mem_nil) hcode w hw) rfl rfl rfl (hts _ (List.mem_cons_of_mem _ (hh _ (by simp)))) (hts _ (List.mem_cons_of_mem _ (hh _ (by simp)))) (hts _ (List.mem_cons_of_mem _ (hh _ (by simp)))) hnm hd hrm) ⟨fun a U gf mk q => by obtain ⟨z0, z1, zP, zK, zD, zE⟩ := q; exact ⟨z0, z1, zP, va_K.moved (u := U) (U := U.calling gf mk a) (Vm.Alike.refl U.vm) zK, zD, zE.calling⟩, fun U hU hW => ⟨rfl, by rw [hU], by rw [hU]; exact hPc, va_K.moved hW.alike hKc, hDc.weaken (fun _ _ _ _ => trivial), by rw [hU]; exact hEc.warm hW⟩⟩ rfl hn hl.1 rfl (lv_room hst) (tb_at htb hi) hcs) hS (fun q _ h => hFc q h) hFc (fun u t H1 locs1 ht hvm hw hB hz1 hk1 hS1 => ?_)
  obtain ⟨hP1, hD1⟩ := hB
  rw [ht] at hP1
  exact h u hw H1 locs1 ls hP1 (hD1.weaken (fun _ q _ h => hFc q.1 h)) hS1 hl

/-- loops: a body over what comes next: what every closed property holds of -/
def Lp {α : Type} (F : (α → Prop) → α → Prop) (a : α) : Prop := ∀ P : α → Prop, (∀ q, F P q → P q) → P a
theorem lp_ind {α : Type} {F : (α → Prop) → α → Prop} (I : α → Prop) (μ : α → Nat) (h : ∀ (a : α) (R : α → Prop), I a → (∀ b, I b → μ b < μ a → R b) → F R a) (a : α) (ha : I a) : Lp F a := by
  intro P hP
  have key : ∀ (n : Nat) (a : α), μ a < n → I a → P a := by
    intro n
    induction n with
    | zero => intro a h; omega
    | succ n ih => intro a h1 h2; exact hP a (h a P h2 (fun b hb h3 => ih b (by omega) hb))
  exact key _ a (Nat.lt_succ_self _) ha
theorem lp_walk {α : Type} {F : (α → Prop) → α → Prop} {P : α → Prop} (h : ∀ (a : α) (R : α → Prop), (∀ b, R b → P b) → F R a → P a) {a : α} (ha : Lp F a) : P a := ha P (fun q hq => h q P (fun _ h => h) hq)
theorem ne_toInt {a v : Int32} (h : ¬ a = v) : a.toInt ≠ v.toInt := fun e => h (Int32.toInt_inj.mp e)
