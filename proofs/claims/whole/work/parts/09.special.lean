/-! Arrays.fill -/
def tb_fill : Tb := [(0, .iconst 0, 1), (1, .istore_n 2, 1), (2, .aload_n 0, 1), (3, .arraylength, 1), (4, .istore_n 3, 1), (5, .iload_n 2, 1), (6, .iload_n 3, 1), (7, .if_icmp .ge 13, 3), (10, .aload_n 0, 1), (11, .iload_n 2, 1), (12, .iload_n 1, 1), (13, .iastore, 1), (14, .iinc 2 1, 3), (17, .goto (-12), 3), (20, .return_, 1)]
theorem tbk_fill : tbOk cJ7_fill_53178 tb_fill = true := by decide +kernel
theorem ok_fill : calleeOk wsL_law yJ7_fill_53178 2 := ⟨by decide +kernel, by decide +kernel, by decide +kernel⟩
set_option maxHeartbeats 4000000 in
theorem w_fill_loop {x : CT} {c0 : Cond} {rm : Room} {a n : Nat} {v : Int32} {post : (Nat → Int32) → Prop} (hn : n < 2 ^ 31) (C : Cx x cJ7_fill_53178 tb_fill 4 RJ7 (c0 :: wsL_law) rm) (rt : RetV x 0 0 (fun (u : Nat → Int32) => [(a, .inl ((xk x).1, n, .inl u))]) post) :
    ∀ (m i : Nat) (f : Nat → Int32), n ≤ i + m → i ≤ n → post (fun j => if i ≤ j ∧ j < n then v else f j) → Wx x 4 0 0 [(a, .inl ((xk x).1, n, .inl f))] [(0, .ref a), (1, .int v), (2, .int (nI i)), (3, .int (nI n))] 5 [] := by
  intro m
  induction m with
  | zero =>
    intro i f h1 h2 hp
    refine x_iload_n C 5 5 rfl 2 rfl rfl ?_
    refine x_iload_n C 6 6 rfl 3 rfl rfl ?_
    refine x_icmp_ge C 7 7 20 rfl rfl (fun c => ?_) (fun c => absurd (nI_le (a := n) (b := i) (by omega) (by omega)) c)
    refine x_vret C rt 14 20 rfl f rfl ?_
    have : (fun j => if i ≤ j ∧ j < n then v else f j) = f := by
      funext j
      rw [if_neg (by omega)]
    rw [this] at hp
    exact hp
  | succ m ih =>
    intro i f h1 h2 hp
    refine x_iload_n C 5 5 rfl 2 rfl rfl ?_
    refine x_iload_n C 6 6 rfl 3 rfl rfl ?_
    refine x_icmp_ge C 7 7 20 rfl rfl (fun c => ?_) (fun c => ?_)
    · have hin : n ≤ i := by
        rcases Nat.lt_or_ge i n with q | q
        · exact absurd c (nI_ge q hn)
        · exact q
      refine x_vret C rt 14 20 rfl f rfl ?_
      have : (fun j => if i ≤ j ∧ j < n then v else f j) = f := by
        funext j
        rw [if_neg (by omega)]
      rw [this] at hp
      exact hp
    · have hin : i < n := by
        rcases Nat.lt_or_ge i n with q | q
        · exact q
        · exact absurd (nI_le q (by omega)) c
      refine x_aload_n C 8 10 rfl 0 rfl rfl ?_
      refine x_iload_n C 9 11 rfl 2 rfl rfl ?_
      refine x_iload_n C 10 12 rfl 1 rfl rfl ?_
      refine x_iast (f := f) (ws' := [(a, .inl ((xk x).1, n, .inl (upd f i v)))]) C 11 13 rfl 0 rfl (vp_in_nI hin hn) (by rw [nI_clamp (by omega)]; rfl) ?_
      refine x_iinc (v := nI (i + 1)) (lv' := [(0, .ref a), (1, .int v), (2, .int (nI (i + 1))), (3, .int (nI n))]) C 12 14 rfl 2 rfl (nI_1 i) (by decide) [1, 2, 0, 3] rfl ?_
      refine x_goto C 13 17 5 rfl rfl ?_
      refine ih (i + 1) (upd f i v) (by omega) (by omega) ?_
      have : (fun j => if i + 1 ≤ j ∧ j < n then v else upd f i v j) = (fun j => if i ≤ j ∧ j < n then v else f j) := by
        funext j
        by_cases h3 : j = i
        · subst h3; simp [upd, hin]
        · by_cases h4 : i ≤ j ∧ j < n
          · rw [if_pos (by omega), if_pos h4]
          · rw [if_neg (by omega), if_neg h4]; simp [upd, h3]
      rw [this]
      exact hp
theorem c_fill (l : Launch) (D : va_G) (k : ClassId × ClassId) (g : Nat → Nat) (a n : Nat) (f : Nat → Int32) (v : Int32) (hn : n < 2 ^ 31) : ConV l yJ7_fill_53178 (Cond.code yJ7_fill_53178 cJ7_fill_53178 4 none :: wsL_law) ({ frames := 0, cells := 0, slots := 0, locals := 0 } : Room) D k g [.ref a, .int v] [(a, .inl (k.1, n, .inl f))] (fun (u : Nat → Int32) => [(a, .inl (k.1, n, .inl u))]) (fun u => u = fun j => if j < n then v else f j) := by
  refine ConV.of (tb := tb_fill) (cc := cJ7_fill_53178) (nL := 4) (by decide) rfl tbk_fill (Nat.le_of_ble_eq_true rfl) ?_
  intro x hl hD hk hg C rt
  subst hl hD hk hg
  have h0 : Wx x 4 0 0 [(a, .inl ((xk x).1, n, .inl f))] [(0, .ref a), (1, .int v)] 0 [] := by
    refine x_iconst (v := (0 : Int32)) C 0 0 rfl (by decide) ?_
    refine x_istore_n (lv' := [(0, .ref a), (1, .int v), (2, .int (0 : Int32))]) C 1 1 rfl rfl (by decide) [1, 2, 0] rfl ?_
    refine x_aload_n C 2 2 rfl 0 rfl rfl ?_
    refine x_alen (f := f) (v := nI n) C 3 3 rfl 0 rfl rfl ?_
    refine x_istore_n (lv' := [(0, .ref a), (1, .int v), (2, .int (0 : Int32)), (3, .int (nI n))]) C 4 4 rfl rfl (by decide) [1, 2, 3, 0] rfl ?_
    exact w_fill_loop hn C rt n 0 f (by omega) (by omega) (by funext j; simp)
  exact h0
theorem set_kept {A : Nat → Prop} {D : va_G} {cl : List vw_C} {ws : va_W} {H H1 : Heap} {q0 a : Nat} {e0 e1 : va_E} (hP : va_P D cl ws H) (hD : va_D A ws) (ha : ws[q0]? = some (a, e0)) (hk : ∀ q : Nat, q < H.size → ¬ va_A [(a, e0)] H.size q → H1[q]? = H[q]?) (hP1 : va_P D cl [(a, e1)] H1) : va_P D cl (ws.set q0 (a, e1)) H1 := by
  intro k q hq
  by_cases h : q0 = k
  · subst h
    have hlt : q0 < ws.length := (List.getElem?_eq_some_iff.mp ha).1
    rw [List.getElem?_set_self hlt] at hq
    cases hq
    exact hP1 0 _ rfl
  · rw [List.getElem?_set_ne h] at hq
    have hne : q.1 ≠ a := fun e => h ((hD.1 k q0 q (a, e0) hq ha e).symm)
    have hl := (hP k q hq).lt
    refine (hP k q hq).kept (hk q.1 hl (fun z => ?_))
    rcases z with ⟨k2, e, z⟩ | z
    · rcases k2 with _ | k2
      · simp at z; exact hne z.1.symm
      · simp at z
    · omega
theorem x_fill {x : CT} {cc : ByteArray} {tb : Tb} {nL : Nat} {own : String} {c0 : Cond} {rm : Room} {ce sl : Nat} {ws ws' : va_W} {lv : List (Nat × Value)} {st : List Value} {index : Nat} {a n : Nat} {f : Nat → Int32} {v : Int32} (C : Cx x cc tb nL own (c0 :: wsL_law) rm) (i pc : Nat) (hi : tb[i]? = some (pc, .invokestatic index, 3)) (hh : ∀ w ∈ [Cond.methodLink own index yJ7_fill_53178, .static yJ7_fill_53178, .initialized RJ7], w ∈ wsL_law) (hrm : 1 ≤ rm.frames ∧ 23 ≤ rm.locals) (hst : (st.map fun v => v.category).sum ≤ 8) (hcs : ce ≤ rm.cells ∧ sl ≤ rm.slots) (q0 : Nat) (ha : ws[q0]? = some (a, .inl ((xk x).1, n, .inl f))) (hn : n < 2 ^ 31) (hw : ws.set q0 (a, .inl ((xk x).1, n, .inl (fun j => if j < n then v else f j))) = ws') (h : Wx x nL ce sl ws' lv (pc + 3) st) : Wx x nL ce sl ws lv pc (.int v :: .ref a :: st) := by
  obtain ⟨p, l, e, R, s, m, args, below, meth, c, Q, A, D, k, g⟩ := x
  obtain ⟨⟨hx, hb, hml, hown, hts⟩, htb, hR, hA, hK, hlk, hE⟩ := C
  intro H locs ls hP hD hS hl
  subst hR
  have hPc : va_P D vwCl [(a, .inl (k.1, n, .inl f))] H := fun j q hq => by
    rcases j with _ | j
    · cases hq; exact hP q0 _ ha
    · simp at hq
  have hDc : va_D A [(a, .inl (k.1, n, .inl f))] := vaD_iff.mpr ⟨List.pairwise_singleton _ _, fun q hq => by simp at hq; subst hq; exact hD.2 q0 _ ha⟩
  have hKc := hK
  have hFc : ∀ q, va_A [(a, .inl (k.1, n, .inl f))] H.size q → A q := free2 hD hS hA (fun q hq => by simp at hq; subst hq; exact List.mem_of_getElem? ha)
  have hEc : EXT g (va_A [(a, .inl (k.1, n, .inl f))] H.size) s H := (hE.kept (fun a h1 h2 => hS.2.1 a h1 h2)).narrow hFc
  refine va_callv (va_runS (As := [.ref a, .int v]) (rest := st) ⟨hx, hb, hml, hown, hts⟩ (c_fill l D k g a n f v hn H.size) (va_cwS 2 hts (good_ww wwGood hh wq_4_2) rfl rfl rfl ok_fill ⟨hrm.1, hrm.2⟩) ⟨fun a U gf mk q => by obtain ⟨z0, z1, zP, zK, zD, zE⟩ := q; exact ⟨z0, z1, zP, va_K.moved (u := U) (U := U.calling gf mk a) (Vm.Alike.refl U.vm) zK, zD, zE.calling⟩, fun U hU hW => ⟨rfl, by rw [hU], by rw [hU]; exact hPc, va_K.moved hW.alike hKc, hDc.weaken (fun _ _ _ _ => trivial), by rw [hU]; exact hEc.warm hW⟩⟩ rfl rfl hl.1 rfl (lv_room hst) (tb_at htb hi) hcs) hS (fun q _ h => hFc q h) hFc (fun u t H1 locs1 ht hvm hw2 hB hz1 hk1 hS1 => ?_)
  obtain ⟨hP1, hD1⟩ := hB
  rw [ht] at hP1
  subst hw2
  subst hw
  exact h H1 locs1 ls (set_kept hP hD ha hk1 hP1) (hD.set ha) hS1 hl
/-! String constants -/
theorem x_str0 {x : CT} {cc : ByteArray} {tb : Tb} {nL : Nat} {Ts : List Cond} {rm : Room} {ce sl : Nat} {ws : va_W} {lv : List (Nat × Value)} {st : List Value} (C : Cx x cc tb nL RX7 Ts rm) (i pc : Nat) (hi : tb[i]? = some (pc, .ldc 112, 2)) (h : Wx x nL ce sl ws lv (pc + 2) (.ref (xg x (2 + 0)) :: st)) : Wx x nL ce sl ws lv pc st := by
  obtain ⟨p, l, e, R, s, m, args, below, meth, c, Q, A, D, k, g⟩ := x
  obtain ⟨⟨hx, hb, hml, hown, hts⟩, htb, hR, hA, hK, hlk, hE⟩ := C
  intro H locs ls hP hD hS hl
  exact va_ldcS hx hb hown hE.2.2.2.1.1 (tb_at htb hi) (h H locs ls hP hD hS hl)
theorem x_str1 {x : CT} {cc : ByteArray} {tb : Tb} {nL : Nat} {Ts : List Cond} {rm : Room} {ce sl : Nat} {ws : va_W} {lv : List (Nat × Value)} {st : List Value} (C : Cx x cc tb nL RX7 Ts rm) (i pc : Nat) (hi : tb[i]? = some (pc, .ldc 118, 2)) (h : Wx x nL ce sl ws lv (pc + 2) (.ref (xg x (2 + 1)) :: st)) : Wx x nL ce sl ws lv pc st := by
  obtain ⟨p, l, e, R, s, m, args, below, meth, c, Q, A, D, k, g⟩ := x
  obtain ⟨⟨hx, hb, hml, hown, hts⟩, htb, hR, hA, hK, hlk, hE⟩ := C
  intro H locs ls hP hD hS hl
  exact va_ldcS hx hb hown hE.2.2.2.1.2 (tb_at htb hi) (h H locs ls hP hD hS hl)
section XSTR
variable {x : CT} {cc : ByteArray} {tb : Tb} {nL : Nat} {own : String} {Ts : List Cond} {rm : Room} {ce sl : Nat} {ws : va_W} {lv : List (Nat × Value)} {st : List Value}
theorem x_sval (C : Cx x cc tb nL own Ts rm) (i pc : Nat) {q index : Nat} (hi : tb[i]? = some (pc, .getfield index, 3)) (hq : q < 2) (hlink : Cond.fieldLink own index "java/lang/String" "value" "[B" ∈ Ts) (h : Wx x nL ce sl ws lv (pc + 3) (.ref (xg x (4 + q)) :: st)) : Wx x nL ce sl ws lv pc (.ref (xg x (2 + q)) :: st) := by
  obtain ⟨p, l, e, R, s, m, args, below, meth, c, Q, A, D, k, g⟩ := x
  obtain ⟨⟨hx, hb, hml, hown, hts⟩, htb, hR, hA, hK, hlk, hE⟩ := C
  intro H locs ls hP hD hS hl
  exact vk_getf hx hb (hE.2.2.1.2.1 q hq).2.2.1 hS hown (hts _ hlink) (fun _ h9 => h9) (tb_at htb hi) (h H locs ls hP hD hS hl)
theorem x_scod (C : Cx x cc tb nL own Ts rm) (i pc : Nat) {q index : Nat} (hi : tb[i]? = some (pc, .getfield index, 3)) (hq : q < 2) (hlink : Cond.fieldLink own index "java/lang/String" "coder" "B" ∈ Ts) (h : Wx x nL ce sl ws lv (pc + 3) (.int 0 :: st)) : Wx x nL ce sl ws lv pc (.ref (xg x (2 + q)) :: st) := by
  obtain ⟨p, l, e, R, s, m, args, below, meth, c, Q, A, D, k, g⟩ := x
  obtain ⟨⟨hx, hb, hml, hown, hts⟩, htb, hR, hA, hK, hlk, hE⟩ := C
  intro H locs ls hP hD hS hl
  exact vk_getf hx hb (hE.2.2.1.2.1 q hq).2.1 hS hown (hts _ hlink) (fun _ h9 => h9) (tb_at htb hi) (h H locs ls hP hD hS hl)
theorem x_scomp (C : Cx x cc tb nL own Ts rm) (i pc : Nat) {index : Nat} (hi : tb[i]? = some (pc, .getstatic index, 3)) (hlink : Cond.fieldLink own index "java/lang/String" "COMPACT_STRINGS" "Z" ∈ Ts) (h : Wx x nL ce sl ws lv (pc + 3) (.int 1 :: st)) : Wx x nL ce sl ws lv pc st := by
  obtain ⟨p, l, e, R, s, m, args, below, meth, c, Q, A, D, k, g⟩ := x
  obtain ⟨⟨hx, hb, hml, hown, hts⟩, htb, hR, hA, hK, hlk, hE⟩ := C
  intro H locs ls hP hD hS hl
  exact va_gets hx hb hE.2.2.1.1 hS hown (hts _ hlink) (fun _ h9 => h9) (tb_at htb hi) (h H locs ls hP hD hS hl)
theorem x_sform (C : Cx x cc tb nL own Ts rm) (i pc : Nat) {index : Nat} (hi : tb[i]? = some (pc, .getstatic index, 3)) (hlink : Cond.fieldLink own index "jdk/internal/util/Preconditions" "SIOOBE_FORMATTER" "Ljava/util/function/BiFunction;" ∈ Ts) (h : ∀ v : Value, (v = .null ∨ ∃ t : Nat, v = .ref t) → Wx x nL ce sl ws lv (pc + 3) (v :: st)) : Wx x nL ce sl ws lv pc st := by
  obtain ⟨p, l, e, R, s, m, args, below, meth, c, Q, A, D, k, g⟩ := x
  obtain ⟨⟨hx, hb, hml, hown, hts⟩, htb, hR, hA, hK, hlk, hE⟩ := C
  intro H locs ls hP hD hS hl
  rcases hE.2.2.2.2.1 with z | ⟨t, z⟩
  · exact va_gets hx hb z hS hown (hts _ hlink) (fun _ h9 => h9) (tb_at htb hi) (h _ (Or.inl rfl) H locs ls hP hD hS hl)
  · exact va_gets hx hb z hS hown (hts _ hlink) (fun _ h9 => h9) (tb_at htb hi) (h _ (Or.inr ⟨t, rfl⟩) H locs ls hP hD hS hl)
theorem x_sblen (C : Cx x cc tb nL own Ts rm) (i pc : Nat) {q : Nat} (hi : tb[i]? = some (pc, .arraylength, 1)) (hq : q < 2) (h : Wx x nL ce sl ws lv (pc + 1) (.int (SLEN q) :: st)) : Wx x nL ce sl ws lv pc (.ref (xg x (4 + q)) :: st) := by
  obtain ⟨p, l, e, R, s, m, args, below, meth, c, Q, A, D, k, g⟩ := x
  obtain ⟨⟨hx, hb, hml, hown, hts⟩, htb, hR, hA, hK, hlk, hE⟩ := C
  intro H locs ls hP hD hS hl
  exact va_tlen hx hb (hE.2.2.1.2.1 q hq).2.2.2 hS rfl (tb_at htb hi) (h H locs ls hP hD hS hl)
theorem x_sbld (C : Cx x cc tb nL own Ts rm) (i pc : Nat) {q : Nat} {j : Int32} (hi : tb[i]? = some (pc, .baload, 1)) (hq : q < 2) (hj : vp_in j (SLENn q)) (h : Wx x nL ce sl ws lv (pc + 1) (.int (SCH q j.toNatClampNeg) :: st)) : Wx x nL ce sl ws lv pc (.int j :: .ref (xg x (4 + q)) :: st) := by
  obtain ⟨p, l, e, R, s, m, args, below, meth, c, Q, A, D, k, g⟩ := x
  obtain ⟨⟨hx, hb, hml, hown, hts⟩, htb, hR, hA, hK, hlk, hE⟩ := C
  intro H locs ls hP hD hS hl
  exact va_tb hx hb (hE.2.2.1.2.1 q hq).2.2.2 hS hj rfl (tb_at htb hi) (h H locs ls hP hD hS hl)
end XSTR
abbrev rz0 : Room := { frames := 0, cells := 0, slots := 0, locals := 0 }
def tb_sck : Tb := [(0, .iload_n 0, 1), (1, .ifCond .lt 8, 3), (4, .iload_n 0, 1), (5, .iload_n 1, 1), (6, .if_icmp .lt 10, 3), (9, .aload_n 2, 1), (10, .iload_n 0, 1), (11, .iload_n 1, 1), (12, .invokestatic 95, 3), (15, .athrow, 1), (16, .iload_n 0, 1), (17, .ireturn, 1)]
theorem tbk_sck : tbOk cJ3_checkIndex_8e157 tb_sck = true := by decide +kernel
theorem ok_sck : calleeOk wsL_law yJ3_checkIndex_8e157 3 := ⟨by decide +kernel, by decide +kernel, by decide +kernel⟩
theorem c_sck (l : Launch) (D : va_G) (k : ClassId × ClassId) (g : Nat → Nat) (j n : Int32) (v : Value) (hv : v = .null ∨ ∃ t : Nat, v = .ref t) (h0 : ¬ j < 0) (h1 : j < n) : ConI l yJ3_checkIndex_8e157 (Cond.code yJ3_checkIndex_8e157 cJ3_checkIndex_8e157 3 (some .int) :: wsL_law) rz0 D k g [.int j, .int n, v] [] (fun (_ : Unit) => []) (fun r _ => r = j) := by
  have key : ∀ (x : CT) (lv : List (Nat × Value)), Cx x cJ3_checkIndex_8e157 tb_sck 3 RJ3 (Cond.code yJ3_checkIndex_8e157 cJ3_checkIndex_8e157 3 (some .int) :: wsL_law) rz0 → RetI x 0 0 (fun (_ : Unit) => []) (fun r _ => r = j) → lv_pick lv [0, 1] = [(0, .int j), (1, .int n)] → Wx x 3 0 0 [] lv 0 [] := by
    intro x lv C rt hl
    refine x_sub [0, 1] hl ?_
    refine x_iload_n C 0 0 rfl 0 rfl rfl ?_
    refine x_if_lt C 1 1 9 rfl rfl (fun c => absurd c h0) (fun c => ?_)
    refine x_iload_n C 2 4 rfl 0 rfl rfl ?_
    refine x_iload_n C 3 5 rfl 1 rfl rfl ?_
    refine x_icmp_lt C 4 6 16 rfl rfl (fun c => ?_) (fun c => absurd h1 c)
    refine x_iload_n C 10 16 rfl 0 rfl rfl ?_
    exact x_iret C rt 11 17 rfl () rfl rfl
  rcases hv with rfl | ⟨t, rfl⟩
  · refine ConI.of (tb := tb_sck) (cc := cJ3_checkIndex_8e157) (nL := 3) (by decide) rfl tbk_sck (Nat.le_of_ble_eq_true rfl) ?_
    intro x hl hD hk hg C rt
    exact key x _ C rt rfl
  · refine ConI.of (tb := tb_sck) (cc := cJ3_checkIndex_8e157) (nL := 3) (by decide) rfl tbk_sck (Nat.le_of_ble_eq_true rfl) ?_
    intro x hl hD hk hg C rt
    exact key x _ C rt rfl
def tb_sc2 : Tb := [(0, .iload_n 0, 1), (1, .iload_n 1, 1), (2, .getstatic 1053, 3), (5, .invokestatic 1059, 3), (8, .pop, 1), (9, .return_, 1)]
theorem tbk_sc2 : tbOk cJ0_checkIndex_df160 tb_sc2 = true := by decide +kernel
theorem ok_sc2 : calleeOk wsL_law yJ0_checkIndex_df160 2 := ⟨by decide +kernel, by decide +kernel, by decide +kernel⟩
abbrev rz1 : Room := { frames := 1, cells := 0, slots := 0, locals := 22 }
theorem c_sc2 (l : Launch) (D : va_G) (k : ClassId × ClassId) (g : Nat → Nat) (j n : Int32) (h0 : ¬ j < 0) (h1 : j < n) : ConV l yJ0_checkIndex_df160 (Cond.code yJ0_checkIndex_df160 cJ0_checkIndex_df160 2 none :: wsL_law) rz1 D k g [.int j, .int n] [] (fun (_ : Unit) => []) (fun _ => True) := by
  refine ConV.of (tb := tb_sc2) (cc := cJ0_checkIndex_df160) (nL := 2) (by decide) rfl tbk_sc2 (Nat.le_of_ble_eq_true rfl) ?_
  intro x hl hD hk hg C rt
  have h9 : Wx x 2 0 0 [] [(0, .int j), (1, .int n)] 0 [] := by
    refine x_iload_n C 0 0 rfl 0 rfl rfl ?_
    refine x_iload_n C 1 1 rfl 1 rfl rfl ?_
    refine x_sform C 2 2 rfl (mc wq_10_4) (fun v hv => ?_)
    have hc : v.category = 1 := by rcases hv with rfl | ⟨t, rfl⟩ <;> rfl
    refine x_call0SI C 3 5 (c_sck (xl x) (xD x) (xk x) (xg x) j n v hv h0 h1) rfl wwGood (mem3 wq_10_5 wq_10_6 wq_10_7) wq_10_8 3 ok_sck rfl ⟨by decide, by decide⟩ (Nat.le_of_ble_eq_true rfl) ⟨Nat.le_refl _, Nat.le_refl _⟩ ⟨rfl, rfl⟩ rfl (fun r _ h => ?_)
    refine x_pop C 4 8 rfl rfl ?_
    exact x_vret C rt 5 9 rfl () rfl trivial
  exact h9
theorem sch_ok : ∀ q, q < 2 → ∀ j, j < SLENn q → ((SCH q j &&& 255).toUInt32 % 65536).toInt32 = SCH q j ∧ narrow .char (.int (SCH q j)) = .int (SCH q j) := by decide
def tb_s1c : Tb := [(0, .iload_n 1, 1), (1, .aload_n 0, 1), (2, .arraylength, 1), (3, .invokestatic 9, 3), (6, .aload_n 0, 1), (7, .iload_n 1, 1), (8, .baload, 1), (9, .sipush 255, 3), (12, .iand, 1), (13, .i2c, 1), (14, .ireturn, 1)]
theorem tbk_s1c : tbOk cJ1_charAt_3b067 tb_s1c = true := by decide +kernel
theorem ok_s1c : calleeOk wsL_law yJ1_charAt_3b067 2 := ⟨by decide +kernel, by decide +kernel, by decide +kernel⟩
abbrev rz2 : Room := { frames := 2, cells := 0, slots := 0, locals := 43 }
theorem slen_lt : ∀ q, q < 2 → SLENn q < 2 ^ 31 := by decide
theorem vpin_parts {j : Int32} {n : Nat} (hn : n < 2 ^ 31) (h : vp_in j n) : ¬ j < 0 ∧ j < Int32.ofNat n ∧ j.toNatClampNeg < n := by
  obtain ⟨i, h1, rfl⟩ := vp_in_of h hn
  exact ⟨nI_pos (by omega), nI_lt h1 hn, by rw [nI_clamp (by omega)]; exact h1⟩
theorem c_s1c (l : Launch) (D : va_G) (k : ClassId × ClassId) (g : Nat → Nat) (q : Nat) (j : Int32) (hq : q < 2) (hj : vp_in j (SLENn q)) : ConH l yJ1_charAt_3b067 (Cond.code yJ1_charAt_3b067 cJ1_charAt_3b067 2 (some .char) :: wsL_law) rz2 D k g [.ref (g (4 + q)), .int j] [] (fun (_ : Unit) => []) (fun r _ => r = SCH q j.toNatClampNeg) := by
  refine ConH.of (tb := tb_s1c) (cc := cJ1_charAt_3b067) (nL := 2) (by decide) rfl tbk_s1c (Nat.le_of_ble_eq_true rfl) ?_
  intro x hl hD hk hg C rt
  subst hg
  obtain ⟨p1, p2, p3⟩ := vpin_parts (slen_lt q hq) hj
  have h9 : Wx x 2 0 0 [] [(0, .ref (xg x (4 + q))), (1, .int j)] 0 [] := by
    refine x_iload_n C 0 0 rfl 1 rfl rfl ?_
    refine x_aload_n C 1 1 rfl 0 rfl rfl ?_
    refine x_sblen C 2 2 rfl hq ?_
    refine x_call0SV C 3 3 (c_sc2 (xl x) (xD x) (xk x) (xg x) j (SLEN q) p1 p2) rfl wwGood (mem3 wq_10_1 wq_10_2 wq_9_4) wq_10_3 2 ok_sc2 rfl ⟨by decide, by decide⟩ (Nat.le_of_ble_eq_true rfl) ⟨Nat.le_refl _, Nat.le_refl _⟩ ⟨rfl, rfl⟩ rfl (fun _ h => ?_)
    refine x_aload_n C 4 6 rfl 0 rfl rfl ?_
    refine x_iload_n C 5 7 rfl 1 rfl rfl ?_
    refine x_sbld C 6 8 rfl hq hj ?_
    refine x_sipush (v := (255 : Int32)) C 7 9 rfl (by decide) ?_
    refine x_iand C 8 12 rfl ?_
    refine x_i2c C 9 13 rfl ?_
    rw [(sch_ok q hq _ p3).1]
    exact x_hret C rt 10 14 rfl (sch_ok q hq _ p3).2 () rfl rfl
  exact h9
def tb_sil : Tb := [(0, .getstatic 38, 3), (3, .ifCond .eq 14, 3), (6, .aload_n 0, 1), (7, .getfield 15, 3), (10, .ifCond .ne 7, 3), (13, .iconst 1, 1), (14, .goto 4, 3), (17, .iconst 0, 1), (18, .ireturn, 1)]
theorem tbk_sil : tbOk cJ0_isLatin1_aae02 tb_sil = true := by decide +kernel
theorem ok_sil : calleeOk wsL_law yJ0_isLatin1_aae02 0 := ⟨by decide +kernel, by decide +kernel, by decide +kernel⟩
theorem c_sil (l : Launch) (D : va_G) (k : ClassId × ClassId) (g : Nat → Nat) (q : Nat) (hq : q < 2) : ConZ l yJ0_isLatin1_aae02 (Cond.code yJ0_isLatin1_aae02 cJ0_isLatin1_aae02 1 (some .boolean) :: wsL_law) rz0 D k g [.ref (g (2 + q))] [] (fun (_ : Unit) => []) (fun r _ => r = 1) := by
  refine ConZ.of (tb := tb_sil) (cc := cJ0_isLatin1_aae02) (nL := 1) (by decide) rfl tbk_sil (Nat.le_of_ble_eq_true rfl) ?_
  intro x hl hD hk hg C rt
  subst hg
  have h9 : Wx x 1 0 0 [] [(0, .ref (xg x (2 + q)))] 0 [] := by
    refine x_scomp C 0 0 rfl (mc wq_9_11) ?_
    refine x_if_eq C 1 3 17 rfl rfl (fun c => absurd c (by decide)) (fun c => ?_)
    refine x_aload_n C 2 6 rfl 0 rfl rfl ?_
    refine x_scod C 3 7 rfl hq (mc wq_9_12) ?_
    refine x_if_ne C 4 10 17 rfl rfl (fun c => absurd rfl c) (fun c => ?_)
    refine x_iconst (v := (1 : Int32)) C 5 13 rfl (by decide) ?_
    refine x_goto C 6 14 18 rfl rfl ?_
    exact x_zret C rt 8 18 rfl zb_1 () rfl rfl
  exact h9
def tb_sco : Tb := [(0, .getstatic 38, 3), (3, .ifCond .eq 10, 3), (6, .aload_n 0, 1), (7, .getfield 15, 3), (10, .goto 4, 3), (13, .iconst 1, 1), (14, .ireturn, 1)]
theorem tbk_sco : tbOk cJ0_coder_7d493 tb_sco = true := by decide +kernel
theorem ok_sco : calleeOk wsL_law yJ0_coder_7d493 0 := ⟨by decide +kernel, by decide +kernel, by decide +kernel⟩
theorem c_sco (l : Launch) (D : va_G) (k : ClassId × ClassId) (g : Nat → Nat) (q : Nat) (hq : q < 2) : ConB l yJ0_coder_7d493 (Cond.code yJ0_coder_7d493 cJ0_coder_7d493 1 (some .byte) :: wsL_law) rz0 D k g [.ref (g (2 + q))] [] (fun (_ : Unit) => []) (fun r _ => r = 0) := by
  refine ConB.of (tb := tb_sco) (cc := cJ0_coder_7d493) (nL := 1) (by decide) rfl tbk_sco (Nat.le_of_ble_eq_true rfl) ?_
  intro x hl hD hk hg C rt
  subst hg
  have h9 : Wx x 1 0 0 [] [(0, .ref (xg x (2 + q)))] 0 [] := by
    refine x_scomp C 0 0 rfl (mc wq_9_11) ?_
    refine x_if_eq C 1 3 13 rfl rfl (fun c => absurd c (by decide)) (fun c => ?_)
    refine x_aload_n C 2 6 rfl 0 rfl rfl ?_
    refine x_scod C 3 7 rfl hq (mc wq_9_12) ?_
    refine x_goto C 4 10 14 rfl rfl ?_
    exact x_bret C rt 6 14 rfl rfl () rfl rfl
  exact h9
def tb_sle : Tb := [(0, .aload_n 0, 1), (1, .getfield 9, 3), (4, .arraylength, 1), (5, .aload_n 0, 1), (6, .invokevirtual 335, 3), (9, .ishr, 1), (10, .ireturn, 1)]
theorem tbk_sle : tbOk cJ0_length_8abf5 tb_sle = true := by decide +kernel
theorem ok_sle : calleeOk wsL_law yJ0_length_8abf5 0 := ⟨by decide +kernel, by decide +kernel, by decide +kernel⟩
abbrev rz3 : Room := { frames := 1, cells := 0, slots := 0, locals := 20 }
theorem slen_shr : ∀ q, q < 2 → SLEN q >>> ((0 : Int32) &&& 31) = SLEN q := by decide
theorem c_sle (l : Launch) (D : va_G) (k : ClassId × ClassId) (g : Nat → Nat) (q : Nat) (hq : q < 2) : ConI l yJ0_length_8abf5 (Cond.code yJ0_length_8abf5 cJ0_length_8abf5 1 (some .int) :: wsL_law) rz3 D k g [.ref (g (2 + q))] [] (fun (_ : Unit) => []) (fun r _ => r = SLEN q) := by
  refine ConI.of (tb := tb_sle) (cc := cJ0_length_8abf5) (nL := 1) (by decide) rfl tbk_sle (Nat.le_of_ble_eq_true rfl) ?_
  intro x hl hD hk hg C rt
  subst hg
  have h9 : Wx x 1 0 0 [] [(0, .ref (xg x (2 + q)))] 0 [] := by
    refine x_aload_n C 0 0 rfl 0 rfl rfl ?_
    refine x_sval C 1 1 rfl hq (mc wq_9_6) ?_
    refine x_sblen C 2 4 rfl hq ?_
    refine x_aload_n C 3 5 rfl 0 rfl rfl ?_
    refine x_call0EB (q := q) C 4 6 (c_sco (xl x) (xD x) (xk x) (xg x) q hq) rfl wwGood (mem4 wq_9_7 wq_9_8 wq_9_9 wq_9_4) wq_9_10 0 ok_sco rfl ⟨by decide, by decide⟩ (Nat.le_of_ble_eq_true rfl) ⟨Nat.le_refl _, Nat.le_refl _⟩ ⟨rfl, rfl⟩ rfl rfl hq (fun r _ h => ?_)
    subst h
    refine x_ishr C 5 9 rfl ?_
    rw [slen_shr q hq]
    exact x_iret C rt 6 10 rfl () rfl rfl
  exact h9
def tb_sch : Tb := [(0, .aload_n 0, 1), (1, .invokevirtual 492, 3), (4, .ifCond .eq 12, 3), (7, .aload_n 0, 1), (8, .getfield 9, 3), (11, .iload_n 1, 1), (12, .invokestatic 495, 3), (15, .ireturn, 1)]
theorem tbk_sch : tbOk cJ0_charAt_5068e tb_sch = true := by decide +kernel
theorem ok_sch : calleeOk wsL_law yJ0_charAt_5068e 1 := ⟨by decide +kernel, by decide +kernel, by decide +kernel⟩
abbrev rz4 : Room := { frames := 3, cells := 0, slots := 0, locals := 64 }
theorem c_sch (l : Launch) (D : va_G) (k : ClassId × ClassId) (g : Nat → Nat) (q : Nat) (j : Int32) (hq : q < 2) (hj : vp_in j (SLENn q)) : ConH l yJ0_charAt_5068e (Cond.code yJ0_charAt_5068e cJ0_charAt_5068e 2 (some .char) :: wsL_law) rz4 D k g [.ref (g (2 + q)), .int j] [] (fun (_ : Unit) => []) (fun r _ => r = SCH q j.toNatClampNeg) := by
  refine ConH.of (tb := tb_sch) (cc := cJ0_charAt_5068e) (nL := 2) (by decide) rfl tbk_sch (Nat.le_of_ble_eq_true rfl) ?_
  intro x hl hD hk hg C rt
  subst hg
  obtain ⟨p1, p2, p3⟩ := vpin_parts (slen_lt q hq) hj
  have h9 : Wx x 2 0 0 [] [(0, .ref (xg x (2 + q))), (1, .int j)] 0 [] := by
    refine x_aload_n C 0 0 rfl 0 rfl rfl ?_
    refine x_call0EZ (q := q) C 1 1 (c_sil (xl x) (xD x) (xk x) (xg x) q hq) rfl wwGood (mem4 wq_9_17 wq_9_18 wq_9_19 wq_9_4) wq_9_20 0 ok_sil rfl ⟨by decide, by decide⟩ (Nat.le_of_ble_eq_true rfl) ⟨Nat.le_refl _, Nat.le_refl _⟩ ⟨rfl, rfl⟩ rfl rfl hq (fun r _ h => ?_)
    subst h
    refine x_if_eq C 2 4 16 rfl rfl (fun c => absurd c (by decide)) (fun c => ?_)
    refine x_aload_n C 3 7 rfl 0 rfl rfl ?_
    refine x_sval C 4 8 rfl hq (mc wq_9_6) ?_
    refine x_iload_n C 5 11 rfl 1 rfl rfl ?_
    refine x_call0SH C 6 12 (c_s1c (xl x) (xD x) (xk x) (xg x) q j hq hj) rfl wwGood (mem3 wq_9_21 wq_9_22 wq_9_23) wq_10_0 2 ok_s1c rfl ⟨by decide, by decide⟩ (Nat.le_of_ble_eq_true rfl) ⟨Nat.le_refl _, Nat.le_refl _⟩ ⟨rfl, rfl⟩ rfl (fun r _ h => ?_)
    subst h
    exact x_hret C rt 7 15 rfl (sch_ok q hq _ p3).2 () rfl rfl
  exact h9
theorem x_slen {x : CT} {cc : ByteArray} {tb : Tb} {nL : Nat} {own : String} {c0 : Cond} {rm : Room} {ce sl : Nat} {ws : va_W} {lv : List (Nat × Value)} {st : List Value} {index q : Nat} (C : Cx x cc tb nL own (c0 :: wsL_law) rm) (i pc : Nat) (hi : tb[i]? = some (pc, .invokevirtual index, 3)) (hl : Cond.methodLink own index yJ0_length_8abf5 ∈ wsL_law) (hq : q < 2) (hrm : 2 ≤ rm.frames ∧ 40 ≤ rm.locals) (hst : (st.map fun v => v.category).sum ≤ 8) (hcs : ce ≤ rm.cells ∧ sl ≤ rm.slots) (h : Wx x nL ce sl ws lv (pc + 3) (.int (SLEN q) :: st)) : Wx x nL ce sl ws lv pc (.ref (xg x (2 + q)) :: st) := by
  refine x_call0EI (q := q) (As := []) C i pc (c_sle (xl x) (xD x) (xk x) (xg x) q hq) hi wwGood (mem4 hl wq_9_2 wq_9_3 wq_9_4) wq_9_5 0 ok_sle rfl ⟨hrm.1, hrm.2⟩ hst hcs ⟨rfl, rfl⟩ rfl rfl hq (fun r _ h2 => ?_)
  subst h2
  exact h
theorem x_sch {x : CT} {cc : ByteArray} {tb : Tb} {nL : Nat} {own : String} {c0 : Cond} {rm : Room} {ce sl : Nat} {ws : va_W} {lv : List (Nat × Value)} {st : List Value} {index q : Nat} {j : Int32} (C : Cx x cc tb nL own (c0 :: wsL_law) rm) (i pc : Nat) (hi : tb[i]? = some (pc, .invokevirtual index, 3)) (hl : Cond.methodLink own index yJ0_charAt_5068e ∈ wsL_law) (hq : q < 2) (hj : vp_in j (SLENn q)) (hrm : 4 ≤ rm.frames ∧ 85 ≤ rm.locals) (hst : (st.map fun v => v.category).sum ≤ 8) (hcs : ce ≤ rm.cells ∧ sl ≤ rm.slots) (h : Wx x nL ce sl ws lv (pc + 3) (.int (SCH q j.toNatClampNeg) :: st)) : Wx x nL ce sl ws lv pc (.int j :: .ref (xg x (2 + q)) :: st) := by
  refine x_call0EH (q := q) (As := [.int j]) C i pc (c_sch (xl x) (xD x) (xk x) (xg x) q j hq hj) hi wwGood (mem4 hl wq_9_14 wq_9_15 wq_9_4) wq_9_16 1 ok_sch rfl ⟨hrm.1, hrm.2⟩ hst hcs ⟨rfl, rfl⟩ rfl rfl hq (fun r _ h2 => ?_)
  subst h2
  exact h
