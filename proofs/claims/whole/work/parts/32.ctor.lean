theorem x_newaI {x : CT} {cc : ByteArray} {tb : Tb} {nL : Nat} {own : String} {Ts : List Cond} {rm : Room} {ce sl : Nat} {ws : va_W} {lv : List (Nat × Value)} {st : List Value} (C : Cx x cc tb nL own Ts rm) (i pc : Nat) {n : Int32} (N : Nat) (hi : tb[i]? = some (pc, .newarray .int, 2)) (harr : Cond.arrayClass .int ∈ Ts) (hn : ¬ n < 0) (hN : n.toNatClampNeg = N) (hbt : N * componentBytes .int ≤ 536870912) (hc : ce + 1 ≤ rm.cells ∧ sl + N ≤ rm.slots) (h : ∀ q : Nat, Wx x nL (ce + 1) (sl + N) (ws ++ [(q, .inl ((xk x).1, N, .inl (fun _ => 0)))]) lv (pc + 2) (.ref q :: st)) : Wx x nL ce sl ws lv pc (.int n :: st) := by
  obtain ⟨p, l, e, R, s, m, args, below, meth, c, Q, A, D, k, g⟩ := x
  obtain ⟨⟨hx, hb, hml, hown, hts⟩, htb, hR, hA, hK, hlk, hE⟩ := C
  intro H locs ls hP hD hS hl
  subst hR
  refine va_newa (atype := .int) hx hb (hts _ harr) (ty := .int) rfl hK hP hD hS hA (a0 := (N, .inl (fun _ => 0))) (fun cA => rfl) hn hN hbt hc.1 hc.2 (tb_at htb hi) (fun q cA H1 hK1 hP1 hD1 hS1 => ?_)
  have e1 := va_nm_int (hK1.2 2 (cA, .int) rfl).2
  have e2 := va_nm_int (hK.2 0 (k.1, .int) rfl).2
  have e3 : cA = k.1 := Option.some.inj (e1.symm.trans e2)
  subst e3
  exact h q H1 locs ls hP1 hD1 hS1 hl

theorem x_newaZ {x : CT} {cc : ByteArray} {tb : Tb} {nL : Nat} {own : String} {Ts : List Cond} {rm : Room} {ce sl : Nat} {ws : va_W} {lv : List (Nat × Value)} {st : List Value} (C : Cx x cc tb nL own Ts rm) (i pc : Nat) {n : Int32} (N : Nat) (hi : tb[i]? = some (pc, .newarray .boolean, 2)) (harr : Cond.arrayClass .boolean ∈ Ts) (hn : ¬ n < 0) (hN : n.toNatClampNeg = N) (hbt : N * componentBytes .boolean ≤ 536870912) (hc : ce + 1 ≤ rm.cells ∧ sl + N ≤ rm.slots) (h : ∀ q : Nat, Wx x nL (ce + 1) (sl + N) (ws ++ [(q, .inl ((xk x).2, N, .inl (fun _ => 0)))]) lv (pc + 2) (.ref q :: st)) : Wx x nL ce sl ws lv pc (.int n :: st) := by
  obtain ⟨p, l, e, R, s, m, args, below, meth, c, Q, A, D, k, g⟩ := x
  obtain ⟨⟨hx, hb, hml, hown, hts⟩, htb, hR, hA, hK, hlk, hE⟩ := C
  intro H locs ls hP hD hS hl
  subst hR
  refine va_newa (atype := .boolean) hx hb (hts _ harr) (ty := .boolean) rfl hK hP hD hS hA (a0 := (N, .inl (fun _ => 0))) (fun cA => rfl) hn hN hbt hc.1 hc.2 (tb_at htb hi) (fun q cA H1 hK1 hP1 hD1 hS1 => ?_)
  have e1 := va_nm_boolean (hK1.2 2 (cA, .boolean) rfl).2
  have e2 := va_nm_boolean (hK.2 1 (k.2, .boolean) rfl).2
  have e3 : cA = k.2 := Option.some.inj (e1.symm.trans e2)
  subst e3
  exact h q H1 locs ls hP1 hD1 hS1 hl

theorem x_new {x : CT} {cc : ByteArray} {tb : Tb} {nL : Nat} {own : String} {Ts : List Cond} {rm : Room} {ce sl : Nat} {ws : va_W} {lv : List (Nat × Value)} {st : List Value} (C : Cx x cc tb nL own Ts rm) (i pc : Nat) {index ci N : Nat} {Cn : String} {T : u_T} {fs : List Value} (hi : tb[i]? = some (pc, .new index, 3)) (hin : ∀ w ∈ u_ws Cn T N, w ∈ Ts) (ty : Nat → FieldType) (hty : ∀ k, k < N → parseFieldDescriptor (T k).2.2.1 = some (ty k)) (hcl : Cond.classLink own index Cn ∈ Ts) (hinst : Cond.instantiable Cn N ∈ Ts) (hini : Cond.initialized Cn ∈ Ts) (hc : vwCl[ci]? = some (Cn, T, N)) (hfs : ∀ j, j < N → defaultValue (ty j) = vp_V fs j) (hcs : ce + 1 ≤ rm.cells ∧ sl + N ≤ rm.slots) (h : ∀ q : Nat, Wx x nL (ce + 1) (sl + N) (ws ++ [(q, .inr (ci, fs))]) lv (pc + 3) (.ref q :: st)) : Wx x nL ce sl ws lv pc st := by
  obtain ⟨p, l, e, R, s, m, args, below, meth, c, Q, A, D, k, g⟩ := x
  obtain ⟨⟨hx, hb, hml, hown, hts⟩, htb, hR, hA, hK, hlk, hE⟩ := C
  intro H locs ls hP hD hS hl
  subst hR
  exact va_new hx hb hts hin ty hty hown (hts _ hcl) (hts _ hinst) (hts _ hini) hK hP hD hS hA hc hfs hcs.1 hcs.2 (tb_at htb hi) (fun q H1 hP1 hD1 hS1 => h q H1 locs ls hP1 hD1 hS1 hl)
def XInit (x : CT) : Prop := x.2.2.2.2.2.2.2.2.1.name = "<init>"
theorem x_putF {x : CT} {cc : ByteArray} {tb : Tb} {nL : Nat} {own : String} {Ts : List Cond} {rm : Room} {ce sl : Nat} {ws : va_W} {lv : List (Nat × Value)} {st : List Value} (C : Cx x cc tb nL own Ts rm) (hI : XInit x) (i pc : Nat) {index ci N a : Nat} {T : u_T} {fs : List Value} {v : Value} {ws' : va_W} (hi : tb[i]? = some (pc, .putfield index, 3)) (hin : ∀ w ∈ u_ws own T N, w ∈ Ts) (ty0 : Nat → FieldType) (hty : ∀ k, k < N → parseFieldDescriptor (T k).2.2.1 = some (ty0 k)) (hnm : ∀ a, a < N → ∀ b, b < N → a ≠ b → (T a).2.1 ≠ (T b).2.1) (q0 : Nat) (he : ws[q0]? = some (a, .inr (ci, fs))) (hc : vwCl[ci]? = some (own, T, N)) (f : Nat) (hf : f < N) (hlink : Cond.fieldLink own index (T f).1 (T f).2.1 (T f).2.2.1 ∈ Ts) (hfin : (T f).2.2.2 = true) (hdecl : (T f).1 = own) (hn : narrow (ty0 f) v = v) (hfit : fits (ty0 f) v = true) (hl0 : f < fs.length) (hw : ws.set q0 (a, .inr (ci, fs.set f v)) = ws') (h : Wx x nL ce sl ws' lv (pc + 3) st) : Wx x nL ce sl ws lv pc (v :: .ref a :: st) := by
  obtain ⟨p, l, e, R, s, m, args, below, meth, c, Q, A, D, k, g⟩ := x
  obtain ⟨⟨hx, hb, hml, hown, hts⟩, htb, hR, hA, hK, hlk, hE⟩ := C
  intro H locs ls hP hD hS hl
  subst hR
  exact va_putF hx hb hts hin ty0 hty hnm hown hK hP hD hS q0 he hc f hf (hts _ hlink) (fun _ h9 => h9) hfin hI hdecl (hty f hf) hn hfit hl0 (tb_at htb hi) (fun H1 locs1 hP1 hD1 hS1 => h H1 locs1 ls (hw ▸ hP1) (hw ▸ hD1) hS1 hl)
theorem x_objInit {x : CT} {cc : ByteArray} {tb : Tb} {nL : Nat} {own : String} {Ts : List Cond} {rm : Room} {ce sl : Nat} {ws : va_W} {lv : List (Nat × Value)} {st : List Value} {a : Nat} (C : Cx x cc tb nL own Ts rm) (i pc : Nat) {index : Nat} (hi : tb[i]? = some (pc, .invokespecial index, 3)) (h1 : Cond.methodLink own index objectInit ∈ Ts) (h2 : Cond.instanceMethod objectInit ∈ Ts) (h3 : Cond.code objectInit ⟨#[0xb1]⟩ 1 none ∈ Ts) (hf : 1 ≤ rm.frames ∧ (st.map fun v => v.category).sum + 12 ≤ rm.locals) (h : Wx x nL ce sl ws lv (pc + 3) st) : Wx x nL ce sl ws lv pc (.ref a :: st) := by
  obtain ⟨p, l, e, R, s, m, args, below, meth, c, Q, A, D, k, g⟩ := x
  obtain ⟨⟨hx, hb, hml, hown, hts⟩, htb, hR, hA, hK, hlk, hE⟩ := C
  intro H locs ls hP hD hS hl
  subst hR
  exact W.objInit hx hb hown (hts _ h1) (hts _ h2) (hts _ h3) rfl (by rw [hml]; exact hl.1) rfl (tb_at htb hi) hf.1 (by show 2 * 0 + _ + 12 ≤ _; have := hf.2; omega) (h H locs ls hP hD hS hl)
theorem x_perm {x : CT} {nL ce sl : Nat} {ws : va_W} {lv : List (Nat × Value)} {st : List Value} {pc : Nat} {ws' : va_W} (is : List Nat) (h1 : is.Perm (List.range ws.length)) (h2 : is.map (fun i => ws[i]?) = ws'.map some) (h : Wx x nL ce sl ws' lv pc st) : Wx x nL ce sl ws lv pc st := by
  obtain ⟨p, l, e, R, s, m, args, below, meth, c, Q, A, D, k, g⟩ := x
  intro H locs ls hP hD hS hl
  have hp := perm_idx is h1 h2
  exact h H locs ls (vaP_perm hp hP) (vaD_perm hp hD) hS hl
theorem x_initA {x : CT} {cc : ByteArray} {tb : Tb} {nL : Nat} {own : String} {WW : List Cond} {c0 : Cond} {rm : Room} {ce sl : Nat} {ws wc : va_W} {lv : List (Nat × Value)} {st : List Value} {y : MethodName} {bytes : ByteArray} {maxL index : Nat} {rmc : Room} {b : Nat} {S : Type} {wu : S → va_W} {post : S → Prop} (C : Cx x cc tb nL own (c0 :: WW) rm) (i pc : Nat) (hM : ConV (xl x) y (Cond.code y bytes maxL none :: WW) rmc (xD x) (xk x) (xg x) [.ref b] wc wu post) (hi : tb[i]? = some (pc, .invokespecial index, 3)) (hg : WW.all goodWord = true) (hh : ∀ w ∈ [Cond.methodLink own index y, .instanceMethod y, .initialized y.cls], w ∈ WW) (hcode : Cond.code y bytes maxL none ∈ WW) (hd : calleeOk WW y 0) (hnm : y.name = "<init>") (hrm : rmc.frames + 1 ≤ rm.frames ∧ 8 + (maxL + 11) + rmc.locals ≤ rm.locals) (hst : (st.map fun v => v.category).sum ≤ 8) (hcs : ce + rmc.cells ≤ rm.cells ∧ sl + rmc.slots ≤ rm.slots)
    (h : ∀ u : S, post u → Wx x nL (ce + rmc.cells) (sl + rmc.slots) (ws ++ wu u) lv (pc + 3) st) : Wx x nL ce sl (ws ++ wc) lv pc (.ref b :: st) := by
  obtain ⟨p, l, e, R, s, m, args, below, meth, c, Q, A, D, k, g⟩ := x
  obtain ⟨⟨hx, hb, hml, hown, hts⟩, htb, hR, hA, hK, hlk, hE⟩ := C
  intro H locs ls hP hD hS hl
  subst hR
  have hPc : va_P D vwCl wc H := vaP_iff.mpr (fun q hq => vaP_iff.mp hP q (List.mem_append_right _ hq))
  have hDc : va_D A wc := vaD_iff.mpr ⟨(List.pairwise_append.mp (vaD_iff.mp hD).1).2.1, fun q hq => (vaD_iff.mp hD).2 q (List.mem_append_right _ hq)⟩
  have hKc := hK
  have hFc : ∀ q, va_A wc H.size q → A q := free2 hD hS hA (fun q hq => List.mem_append_right _ hq)
  have hEc : EXT g (va_A wc H.size) s H := (hE.kept (fun a h1 h2 => hS.2.1 a h1 h2)).narrow hFc
  refine va_callv (va_runI (As := []) (rest := st) ⟨hx, hb, hml, hown, hts⟩ (hM H.size) (cwI 0 hts (fun w hw => good_ww hg (hd := []) (fun _ h => absurd h List.not_mem_nil) hcode w hw) rfl rfl rfl (hts _ (List.mem_cons_of_mem _ (hh _ (by simp)))) (hts _ (List.mem_cons_of_mem _ (hh _ (by simp)))) (hts _ (List.mem_cons_of_mem _ (hh _ (by simp)))) hnm hd hrm) ⟨fun a U gf mk q => by obtain ⟨z0, z1, zP, zK, zD, zE⟩ := q; exact ⟨z0, z1, zP, va_K.moved (u := U) (U := U.calling gf mk a) (Vm.Alike.refl U.vm) zK, zD, zE.calling⟩, fun U hU hW => ⟨rfl, by rw [hU], by rw [hU]; exact hPc, va_K.moved hW.alike hKc, hDc.weaken (fun _ _ _ _ => trivial), by rw [hU]; exact hEc.warm hW⟩⟩ rfl rfl hl.1 rfl (lv_room hst) (tb_at htb hi) hcs) hS (fun q _ h => hFc q h) hFc (fun u t H1 locs1 ht hvm hw hB hz1 hk1 hS1 => ?_)
  obtain ⟨hP1, hD1⟩ := hB
  rw [ht] at hP1
  obtain ⟨hP2, hD2⟩ := join2 hP hD hk1 hFc hP1 hD1
  exact h u hw H1 locs1 ls hP2 hD2 hS1 hl
theorem x_initN {x : CT} {cc : ByteArray} {tb : Tb} {nL : Nat} {own host : String} {WW : List Cond} {c0 : Cond} {rm : Room} {ce sl : Nat} {ws wc : va_W} {lv : List (Nat × Value)} {st : List Value} {y : MethodName} {bytes : ByteArray} {maxL index : Nat} {rmc : Room} {b : Nat} {S : Type} {wu : S → va_W} {post : S → Prop} (C : Cx x cc tb nL own (c0 :: WW) rm) (i pc : Nat) (hM : ConV (xl x) y (Cond.code y bytes maxL none :: WW) rmc (xD x) (xk x) (xg x) [.ref b] wc wu post) (hi : tb[i]? = some (pc, .invokespecial index, 3)) (hg : WW.all goodWord = true) (hln : ∀ s : State, NWS s → va_Nw (.methodLinkNest own index y host) s) (hh : ∀ w ∈ [Cond.instanceMethod y, .initialized y.cls, .initialized y.cls], w ∈ WW) (hcode : Cond.code y bytes maxL none ∈ WW) (hd : calleeOk WW y 0) (hnm : y.name = "<init>") (hrm : rmc.frames + 1 ≤ rm.frames ∧ 8 + (maxL + 11) + rmc.locals ≤ rm.locals) (hst : (st.map fun v => v.category).sum ≤ 8) (hcs : ce + rmc.cells ≤ rm.cells ∧ sl + rmc.slots ≤ rm.slots)
    (h : ∀ u : S, post u → Wx x nL (ce + rmc.cells) (sl + rmc.slots) (ws ++ wu u) lv (pc + 3) st) : Wx x nL ce sl (ws ++ wc) lv pc (.ref b :: st) := by
  obtain ⟨p, l, e, R, s, m, args, below, meth, c, Q, A, D, k, g⟩ := x
  obtain ⟨⟨hx, hb, hml, hown, hts⟩, htb, hR, hA, hK, hlk, hE⟩ := C
  intro H locs ls hP hD hS hl
  subst hR
  have hPc : va_P D vwCl wc H := vaP_iff.mpr (fun q hq => vaP_iff.mp hP q (List.mem_append_right _ hq))
  have hDc : va_D A wc := vaD_iff.mpr ⟨(List.pairwise_append.mp (vaD_iff.mp hD).1).2.1, fun q hq => (vaD_iff.mp hD).2 q (List.mem_append_right _ hq)⟩
  have hKc := hK
  have hFc : ∀ q, va_A wc H.size q → A q := free2 hD hS hA (fun q hq => List.mem_append_right _ hq)
  have hEc : EXT g (va_A wc H.size) s H := (hE.kept (fun a h1 h2 => hS.2.1 a h1 h2)).narrow hFc
  refine va_callv (va_runIN (As := []) (host := host) (rest := st) ⟨hx, hb, hml, hown, hts⟩ (hM H.size) ⟨va_cnB 0 hts (fun w hw => good_ww hg (hd := []) (fun _ h => absurd h List.not_mem_nil) hcode w hw) rfl rfl rfl (hln _ hE.2.2.2.2.2) (hts _ (List.mem_cons_of_mem _ (hh _ (by simp)))) hd hrm, hnm, hts _ (List.mem_cons_of_mem _ (hh _ (by simp)))⟩ ⟨fun a U gf mk q => by obtain ⟨z0, z1, zP, zK, zD, zE⟩ := q; exact ⟨z0, z1, zP, va_K.moved (u := U) (U := U.calling gf mk a) (Vm.Alike.refl U.vm) zK, zD, zE.calling⟩, fun U hU hW => ⟨rfl, by rw [hU], by rw [hU]; exact hPc, va_K.moved hW.alike hKc, hDc.weaken (fun _ _ _ _ => trivial), by rw [hU]; exact hEc.warm hW⟩⟩ rfl rfl hl.1 rfl (lv_room hst) (tb_at htb hi) hcs) hS (fun q _ h => hFc q h) hFc (fun u t H1 locs1 ht hvm hw hB hz1 hk1 hS1 => ?_)
  obtain ⟨hP1, hD1⟩ := hB
  rw [ht] at hP1
  obtain ⟨hP2, hD2⟩ := join2 hP hD hk1 hFc hP1 hD1
  exact h u hw H1 locs1 ls hP2 hD2 hS1 hl
theorem ConV.ofI {l : Launch} {y : MethodName} {wsc ws' : List Cond} {rm : Room} {D : va_G} {k : ClassId × ClassId} {g : Nat → Nat} {av : List Value} {ws : va_W} {S : Type} {wu : S → va_W} {post : S → Prop} {cc : ByteArray} {tb : Tb} {nL : Nat} (hyn : y.name = "<init>") (hy : plainName y.cls = true) (hw : wsc = Cond.code y cc nL none :: ws') (htb : tbOk cc tb = true) (hn : (lg_sl av).length ≤ nL)
    (body : ∀ x : CT, XInit x → xl x = l → xD x = D → xk x = k → xg x = g → Cx x cc tb nL y.cls wsc rm → RetV x rm.cells rm.slots wu post → Wx x nL 0 0 ws (lv_args 0 av) 0 []) : ConV l y wsc rm D k g av ws wu post := by
  intro sz
  refine Met.ofW (cc := cc) (maxL := nL) (ret := none) hy hw ?_
  intro p e s m args below meth c s₁ B hml hv
  obtain ⟨rfl, hsz, hP, hK, hD0, hE⟩ := hv
  have hts := atoms_spec (ws := wsc) B.pre
  have hown : s.vm.findClass y.cls = some m.cls := findClass_of_methodNamed B.named
  have hin : meth.name = "<init>" := ((name_of_methodNamed B.named B.method).1).trans hyn
  subst hsz
  have hl := lv_entry av (n := nL) hn
  rw [lg_entry_eq]
  exact body (p, l, e, rm, s, m, av.toArray, below, meth, c, _, va_A ws s.heap.size, D, k, g) hin rfl rfl rfl rfl ⟨⟨B.exec, B.bytes, hml, hown, hts⟩, htb, rfl, fun q h => Or.inr h, hK, B.notSynchronized, hE⟩ ⟨B.returns, rfl⟩ s.heap [] _ hP hD0.self va_S.rf hl
def s0 : St := fun _ _ => 0
def sK0 : St := uf (us s0 10 (-1)) 6 8 (-1)
def sM0 : St := us s0 3 (-1)
def sV0 : St := us s0 0 2
def sS1 : St := us s0 9 2
def tb_X1_init : Tb := [(0, .aload_n 0, 1), (1, .invokespecial 3, 3), (4, .aload_n 0, 1), (5, .iconst 4, 1), (6, .newarray .int, 2), (8, .putfield 9, 3), (11, .aload_n 0, 1), (12, .bipush 8, 2), (14, .newarray .int, 2), (16, .putfield 15, 3), (19, .aload_n 0, 1), (20, .bipush 8, 2), (22, .newarray .int, 2), (24, .putfield 18, 3), (27, .aload_n 0, 1), (28, .bipush 8, 2), (30, .newarray .int, 2), (32, .putfield 21, 3), (35, .return_, 1)]
set_option maxRecDepth 100000 in
theorem tbk_X1_init : tbOk cX1_init tb_X1_init = true := by decide +kernel
theorem ok_X1_init : calleeOk wsL_law yX1_init 0 := ⟨by decide +kernel, by decide +kernel, by decide +kernel⟩
set_option maxHeartbeats 4000000 in
set_option maxRecDepth 100000 in
theorem c_X1_init (l : Launch) (D : va_G) (k : ClassId × ClassId) (g : Nat → Nat) (a : Nat) : ConV l yX1_init (Cond.code yX1_init cX1_init 1 none :: wsL_law) ({ frames := 1, cells := 4, slots := 28, locals := 12 } : Room) D k g [.ref a] [(a, .inr (0, [.null, .null, .null, .null, .int 0]))] (fun (u : Nat → Nat) => wdB k u s0) (fun u => u 0 = a) := by
  refine ConV.ofI (tb := tb_X1_init) (cc := cX1_init) (nL := 1) rfl (by decide) rfl tbk_X1_init (Nat.le_of_ble_eq_true rfl) ?_
  intro x hI hl hD hk hg C rt
  subst hl hD hk hg
  have h9 : Wx x 1 0 0 [(a, .inr (0, [.null, .null, .null, .null, .int 0]))] [(0, .ref a)] 0 [] := by
    refine x_aload_n C 0 0 rfl 0 rfl rfl ?_
    refine x_objInit C 1 1 rfl (mc wq_3_2) (mc wq_1_11) (mc wq_1_12) ⟨by decide, Nat.le_of_ble_eq_true rfl⟩ ?_
    refine x_aload_n C 2 4 rfl 0 rfl rfl ?_
    refine x_iconst (v := (4 : Int32)) C 3 5 rfl (by decide) ?_
    refine x_newaI C 4 6 4 rfl (mc wq_2_22) (by decide) (by decide) (by decide) ⟨by decide, by decide⟩ (fun q1 => ?_)
    refine x_putF (ws' := [(a, .inr (0, [.ref q1, .null, .null, .null, .int 0])), (q1, .inl ((xk x).1, 4, .inl (fun _ => 0)))]) C hI 5 8 rfl fi_X1 tyX1 tyX1_ok nmX1 0 rfl rfl 0 (by decide) (mc wq_3_3) rfl rfl rfl rfl (Nat.le_of_ble_eq_true rfl) rfl ?_
    refine x_aload_n C 6 11 rfl 0 rfl rfl ?_
    refine x_bipush (v := (8 : Int32)) C 7 12 rfl (by decide) ?_
    refine x_newaI C 8 14 8 rfl (mc wq_2_22) (by decide) (by decide) (by decide) ⟨by decide, by decide⟩ (fun q2 => ?_)
    refine x_putF (ws' := [(a, .inr (0, [.ref q1, .ref q2, .null, .null, .int 0])), (q1, .inl ((xk x).1, 4, .inl (fun _ => 0))), (q2, .inl ((xk x).1, 8, .inl (fun _ => 0)))]) C hI 9 16 rfl fi_X1 tyX1 tyX1_ok nmX1 0 rfl rfl 1 (by decide) (mc wq_3_4) rfl rfl rfl rfl (Nat.le_of_ble_eq_true rfl) rfl ?_
    refine x_aload_n C 10 19 rfl 0 rfl rfl ?_
    refine x_bipush (v := (8 : Int32)) C 11 20 rfl (by decide) ?_
    refine x_newaI C 12 22 8 rfl (mc wq_2_22) (by decide) (by decide) (by decide) ⟨by decide, by decide⟩ (fun q3 => ?_)
    refine x_putF (ws' := [(a, .inr (0, [.ref q1, .ref q2, .ref q3, .null, .int 0])), (q1, .inl ((xk x).1, 4, .inl (fun _ => 0))), (q2, .inl ((xk x).1, 8, .inl (fun _ => 0))), (q3, .inl ((xk x).1, 8, .inl (fun _ => 0)))]) C hI 13 24 rfl fi_X1 tyX1 tyX1_ok nmX1 0 rfl rfl 2 (by decide) (mc wq_3_5) rfl rfl rfl rfl (Nat.le_of_ble_eq_true rfl) rfl ?_
    refine x_aload_n C 14 27 rfl 0 rfl rfl ?_
    refine x_bipush (v := (8 : Int32)) C 15 28 rfl (by decide) ?_
    refine x_newaI C 16 30 8 rfl (mc wq_2_22) (by decide) (by decide) (by decide) ⟨by decide, by decide⟩ (fun q4 => ?_)
    refine x_putF (ws' := [(a, .inr (0, [.ref q1, .ref q2, .ref q3, .ref q4, .int 0])), (q1, .inl ((xk x).1, 4, .inl (fun _ => 0))), (q2, .inl ((xk x).1, 8, .inl (fun _ => 0))), (q3, .inl ((xk x).1, 8, .inl (fun _ => 0))), (q4, .inl ((xk x).1, 8, .inl (fun _ => 0)))]) C hI 17 32 rfl fi_X1 tyX1 tyX1_ok nmX1 0 rfl rfl 3 (by decide) (mc wq_3_6) rfl rfl rfl rfl (Nat.le_of_ble_eq_true rfl) rfl ?_
    exact x_vret C rt 18 35 rfl (fun i => [a, q1, q2, q3, q4].getD i 0) rfl rfl
  exact h9
def tb_X2_init : Tb := [(0, .aload_n 0, 1), (1, .invokespecial 3, 3), (4, .aload_n 0, 1), (5, .sipush 1000, 3), (8, .newarray .int, 2), (10, .putfield 11, 3), (13, .aload_n 0, 1), (14, .sipush 1000, 3), (17, .newarray .int, 2), (19, .putfield 15, 3), (22, .aload_n 0, 1), (23, .sipush 1000, 3), (26, .newarray .int, 2), (28, .putfield 18, 3), (31, .aload_n 0, 1), (32, .sipush 2048, 3), (35, .newarray .int, 2), (37, .putfield 21, 3), (40, .aload_n 0, 1), (41, .sipush 1000, 3), (44, .newarray .int, 2), (46, .putfield 24, 3), (49, .aload_n 0, 1), (50, .sipush 512, 3), (53, .newarray .int, 2), (55, .putfield 29, 3), (58, .aload_n 0, 1), (59, .bipush 8, 2), (61, .newarray .int, 2), (63, .putfield 32, 3), (66, .aload_n 0, 1), (67, .iconst (-1), 1), (68, .putfield 35, 3), (71, .aload_n 0, 1), (72, .getfield 32, 3), (75, .iconst (-1), 1), (76, .invokestatic 39, 3), (79, .return_, 1)]
set_option maxRecDepth 100000 in
theorem tbk_X2_init : tbOk cX2_init tb_X2_init = true := by decide +kernel
theorem ok_X2_init : calleeOk wsL_law yX2_init 0 := ⟨by decide +kernel, by decide +kernel, by decide +kernel⟩
set_option maxHeartbeats 4000000 in
set_option maxRecDepth 100000 in
theorem c_X2_init (l : Launch) (D : va_G) (k : ClassId × ClassId) (g : Nat → Nat) (a : Nat) : ConV l yX2_init (Cond.code yX2_init cX2_init 1 none :: wsL_law) ({ frames := 1, cells := 7, slots := 6568, locals := 23 } : Room) D k g [.ref a] [(a, .inr (1, [.null, .null, .null, .null, .null, .null, .null, .int 0, .int 0, .int 0, .int 0, .int 0]))] (fun (u : Nat → Nat) => wdK k u sK0) (fun u => u 0 = a) := by
  refine ConV.ofI (tb := tb_X2_init) (cc := cX2_init) (nL := 1) rfl (by decide) rfl tbk_X2_init (Nat.le_of_ble_eq_true rfl) ?_
  intro x hI hl hD hk hg C rt
  subst hl hD hk hg
  have h9 : Wx x 1 0 0 [(a, .inr (1, [.null, .null, .null, .null, .null, .null, .null, .int 0, .int 0, .int 0, .int 0, .int 0]))] [(0, .ref a)] 0 [] := by
    refine x_aload_n C 0 0 rfl 0 rfl rfl ?_
    refine x_objInit C 1 1 rfl (mc wq_3_14) (mc wq_1_11) (mc wq_1_12) ⟨by decide, Nat.le_of_ble_eq_true rfl⟩ ?_
    refine x_aload_n C 2 4 rfl 0 rfl rfl ?_
    refine x_sipush (v := (1000 : Int32)) C 3 5 rfl (by decide) ?_
    refine x_newaI C 4 8 1000 rfl (mc wq_2_22) (by decide) (by decide) (by decide) ⟨by decide, by decide⟩ (fun q1 => ?_)
    refine x_putF (ws' := [(a, .inr (1, [.ref q1, .null, .null, .null, .null, .null, .null, .int 0, .int 0, .int 0, .int 0, .int 0])), (q1, .inl ((xk x).1, 1000, .inl (fun _ => 0)))]) C hI 5 10 rfl fi_X2 tyX2 tyX2_ok nmX2 0 rfl rfl 0 (by decide) (mc wq_3_15) rfl rfl rfl rfl (Nat.le_of_ble_eq_true rfl) rfl ?_
    refine x_aload_n C 6 13 rfl 0 rfl rfl ?_
    refine x_sipush (v := (1000 : Int32)) C 7 14 rfl (by decide) ?_
    refine x_newaI C 8 17 1000 rfl (mc wq_2_22) (by decide) (by decide) (by decide) ⟨by decide, by decide⟩ (fun q2 => ?_)
    refine x_putF (ws' := [(a, .inr (1, [.ref q1, .ref q2, .null, .null, .null, .null, .null, .int 0, .int 0, .int 0, .int 0, .int 0])), (q1, .inl ((xk x).1, 1000, .inl (fun _ => 0))), (q2, .inl ((xk x).1, 1000, .inl (fun _ => 0)))]) C hI 9 19 rfl fi_X2 tyX2 tyX2_ok nmX2 0 rfl rfl 1 (by decide) (mc wq_3_16) rfl rfl rfl rfl (Nat.le_of_ble_eq_true rfl) rfl ?_
    refine x_aload_n C 10 22 rfl 0 rfl rfl ?_
    refine x_sipush (v := (1000 : Int32)) C 11 23 rfl (by decide) ?_
    refine x_newaI C 12 26 1000 rfl (mc wq_2_22) (by decide) (by decide) (by decide) ⟨by decide, by decide⟩ (fun q3 => ?_)
    refine x_putF (ws' := [(a, .inr (1, [.ref q1, .ref q2, .ref q3, .null, .null, .null, .null, .int 0, .int 0, .int 0, .int 0, .int 0])), (q1, .inl ((xk x).1, 1000, .inl (fun _ => 0))), (q2, .inl ((xk x).1, 1000, .inl (fun _ => 0))), (q3, .inl ((xk x).1, 1000, .inl (fun _ => 0)))]) C hI 13 28 rfl fi_X2 tyX2 tyX2_ok nmX2 0 rfl rfl 2 (by decide) (mc wq_3_17) rfl rfl rfl rfl (Nat.le_of_ble_eq_true rfl) rfl ?_
    refine x_aload_n C 14 31 rfl 0 rfl rfl ?_
    refine x_sipush (v := (2048 : Int32)) C 15 32 rfl (by decide) ?_
    refine x_newaI C 16 35 2048 rfl (mc wq_2_22) (by decide) (by decide) (by decide) ⟨by decide, by decide⟩ (fun q4 => ?_)
    refine x_putF (ws' := [(a, .inr (1, [.ref q1, .ref q2, .ref q3, .ref q4, .null, .null, .null, .int 0, .int 0, .int 0, .int 0, .int 0])), (q1, .inl ((xk x).1, 1000, .inl (fun _ => 0))), (q2, .inl ((xk x).1, 1000, .inl (fun _ => 0))), (q3, .inl ((xk x).1, 1000, .inl (fun _ => 0))), (q4, .inl ((xk x).1, 2048, .inl (fun _ => 0)))]) C hI 17 37 rfl fi_X2 tyX2 tyX2_ok nmX2 0 rfl rfl 3 (by decide) (mc wq_3_18) rfl rfl rfl rfl (Nat.le_of_ble_eq_true rfl) rfl ?_
    refine x_aload_n C 18 40 rfl 0 rfl rfl ?_
    refine x_sipush (v := (1000 : Int32)) C 19 41 rfl (by decide) ?_
    refine x_newaI C 20 44 1000 rfl (mc wq_2_22) (by decide) (by decide) (by decide) ⟨by decide, by decide⟩ (fun q5 => ?_)
    refine x_putF (ws' := [(a, .inr (1, [.ref q1, .ref q2, .ref q3, .ref q4, .ref q5, .null, .null, .int 0, .int 0, .int 0, .int 0, .int 0])), (q1, .inl ((xk x).1, 1000, .inl (fun _ => 0))), (q2, .inl ((xk x).1, 1000, .inl (fun _ => 0))), (q3, .inl ((xk x).1, 1000, .inl (fun _ => 0))), (q4, .inl ((xk x).1, 2048, .inl (fun _ => 0))), (q5, .inl ((xk x).1, 1000, .inl (fun _ => 0)))]) C hI 21 46 rfl fi_X2 tyX2 tyX2_ok nmX2 0 rfl rfl 4 (by decide) (mc wq_3_19) rfl rfl rfl rfl (Nat.le_of_ble_eq_true rfl) rfl ?_
    refine x_aload_n C 22 49 rfl 0 rfl rfl ?_
    refine x_sipush (v := (512 : Int32)) C 23 50 rfl (by decide) ?_
    refine x_newaI C 24 53 512 rfl (mc wq_2_22) (by decide) (by decide) (by decide) ⟨by decide, by decide⟩ (fun q6 => ?_)
    refine x_putF (ws' := [(a, .inr (1, [.ref q1, .ref q2, .ref q3, .ref q4, .ref q5, .ref q6, .null, .int 0, .int 0, .int 0, .int 0, .int 0])), (q1, .inl ((xk x).1, 1000, .inl (fun _ => 0))), (q2, .inl ((xk x).1, 1000, .inl (fun _ => 0))), (q3, .inl ((xk x).1, 1000, .inl (fun _ => 0))), (q4, .inl ((xk x).1, 2048, .inl (fun _ => 0))), (q5, .inl ((xk x).1, 1000, .inl (fun _ => 0))), (q6, .inl ((xk x).1, 512, .inl (fun _ => 0)))]) C hI 25 55 rfl fi_X2 tyX2 tyX2_ok nmX2 0 rfl rfl 5 (by decide) (mc wq_3_20) rfl rfl rfl rfl (Nat.le_of_ble_eq_true rfl) rfl ?_
    refine x_aload_n C 26 58 rfl 0 rfl rfl ?_
    refine x_bipush (v := (8 : Int32)) C 27 59 rfl (by decide) ?_
    refine x_newaI C 28 61 8 rfl (mc wq_2_22) (by decide) (by decide) (by decide) ⟨by decide, by decide⟩ (fun q7 => ?_)
    refine x_putF (ws' := [(a, .inr (1, [.ref q1, .ref q2, .ref q3, .ref q4, .ref q5, .ref q6, .ref q7, .int 0, .int 0, .int 0, .int 0, .int 0])), (q1, .inl ((xk x).1, 1000, .inl (fun _ => 0))), (q2, .inl ((xk x).1, 1000, .inl (fun _ => 0))), (q3, .inl ((xk x).1, 1000, .inl (fun _ => 0))), (q4, .inl ((xk x).1, 2048, .inl (fun _ => 0))), (q5, .inl ((xk x).1, 1000, .inl (fun _ => 0))), (q6, .inl ((xk x).1, 512, .inl (fun _ => 0))), (q7, .inl ((xk x).1, 8, .inl (fun _ => 0)))]) C hI 29 63 rfl fi_X2 tyX2 tyX2_ok nmX2 0 rfl rfl 6 (by decide) (mc wq_3_21) rfl rfl rfl rfl (Nat.le_of_ble_eq_true rfl) rfl ?_
    refine x_aload_n C 30 66 rfl 0 rfl rfl ?_
    refine x_iconst (v := (-1 : Int32)) C 31 67 rfl (by decide) ?_
    refine x_put (ws' := [(a, .inr (1, [.ref q1, .ref q2, .ref q3, .ref q4, .ref q5, .ref q6, .ref q7, .int 0, .int 0, .int 0, .int (-1 : Int32), .int 0])), (q1, .inl ((xk x).1, 1000, .inl (fun _ => 0))), (q2, .inl ((xk x).1, 1000, .inl (fun _ => 0))), (q3, .inl ((xk x).1, 1000, .inl (fun _ => 0))), (q4, .inl ((xk x).1, 2048, .inl (fun _ => 0))), (q5, .inl ((xk x).1, 1000, .inl (fun _ => 0))), (q6, .inl ((xk x).1, 512, .inl (fun _ => 0))), (q7, .inl ((xk x).1, 8, .inl (fun _ => 0)))]) C 32 68 rfl fi_X2 tyX2 tyX2_ok nmX2 0 rfl rfl 10 (by decide) (mc wq_3_22) rfl rfl rfl (Nat.le_of_ble_eq_true rfl) rfl ?_
    refine x_aload_n C 33 71 rfl 0 rfl rfl ?_
    refine x_get (v := .ref q7) C 34 72 rfl fi_X2 0 rfl rfl 6 (by decide) (mc wq_3_21) rfl ?_
    refine x_iconst (v := (-1 : Int32)) C 35 75 rfl (by decide) ?_
    refine x_fill (f := fun _ => 0) (ws' := [(a, .inr (1, [.ref q1, .ref q2, .ref q3, .ref q4, .ref q5, .ref q6, .ref q7, .int 0, .int 0, .int 0, .int (-1 : Int32), .int 0])), (q1, .inl ((xk x).1, 1000, .inl (fun _ => 0))), (q2, .inl ((xk x).1, 1000, .inl (fun _ => 0))), (q3, .inl ((xk x).1, 1000, .inl (fun _ => 0))), (q4, .inl ((xk x).1, 2048, .inl (fun _ => 0))), (q5, .inl ((xk x).1, 1000, .inl (fun _ => 0))), (q6, .inl ((xk x).1, 512, .inl (fun _ => 0))), (q7, .inl ((xk x).1, 8, .inl (fun j => if j < 8 then (-1 : Int32) else (fun _ => 0) j)))]) C 36 76 rfl (mem3 wq_3_23 wq_4_0 wq_4_1) ⟨by decide, by decide⟩ (Nat.le_of_ble_eq_true rfl) ⟨by decide, by decide⟩ 7 rfl (by decide) rfl ?_
    exact x_vret C rt 37 79 rfl (fun i => [a, q1, q2, q3, q4, q5, q6, q7].getD i 0) rfl rfl
  exact h9
def tb_X5_init : Tb := [(0, .aload_n 0, 1), (1, .invokespecial 1, 3), (4, .aload_n 0, 1), (5, .bipush 12, 2), (7, .newarray .int, 2), (9, .putfield 9, 3), (12, .return_, 1)]
set_option maxRecDepth 100000 in
theorem tbk_X5_init : tbOk cX5_init tb_X5_init = true := by decide +kernel
theorem ok_X5_init : calleeOk wsL_law yX5_init 0 := ⟨by decide +kernel, by decide +kernel, by decide +kernel⟩
set_option maxHeartbeats 4000000 in
set_option maxRecDepth 100000 in
theorem c_X5_init (l : Launch) (D : va_G) (k : ClassId × ClassId) (g : Nat → Nat) (a : Nat) : ConV l yX5_init (Cond.code yX5_init cX5_init 1 none :: wsL_law) ({ frames := 1, cells := 1, slots := 12, locals := 12 } : Room) D k g [.ref a] [(a, .inr (3, [.null, .int 0]))] (fun (u : Nat → Nat) => wdR k u s0) (fun u => u 0 = a) := by
  refine ConV.ofI (tb := tb_X5_init) (cc := cX5_init) (nL := 1) rfl (by decide) rfl tbk_X5_init (Nat.le_of_ble_eq_true rfl) ?_
  intro x hI hl hD hk hg C rt
  subst hl hD hk hg
  have h9 : Wx x 1 0 0 [(a, .inr (3, [.null, .int 0]))] [(0, .ref a)] 0 [] := by
    refine x_aload_n C 0 0 rfl 0 rfl rfl ?_
    refine x_objInit C 1 1 rfl (mc wq_3_9) (mc wq_1_11) (mc wq_1_12) ⟨by decide, Nat.le_of_ble_eq_true rfl⟩ ?_
    refine x_aload_n C 2 4 rfl 0 rfl rfl ?_
    refine x_bipush (v := (12 : Int32)) C 3 5 rfl (by decide) ?_
    refine x_newaI C 4 7 12 rfl (mc wq_2_22) (by decide) (by decide) (by decide) ⟨by decide, by decide⟩ (fun q1 => ?_)
    refine x_putF (ws' := [(a, .inr (3, [.ref q1, .int 0])), (q1, .inl ((xk x).1, 12, .inl (fun _ => 0)))]) C hI 5 9 rfl fi_X5 tyX5 tyX5_ok nmX5 0 rfl rfl 0 (by decide) (mc wq_3_10) rfl rfl rfl rfl (Nat.le_of_ble_eq_true rfl) rfl ?_
    exact x_vret C rt 6 12 rfl (fun i => [a, q1].getD i 0) rfl rfl
  exact h9
def tb_X6_init : Tb := [(0, .aload_n 0, 1), (1, .invokespecial 5, 3), (4, .aload_n 0, 1), (5, .iconst 2, 1), (6, .putfield 11, 3), (9, .aload_n 0, 1), (10, .sipush 256, 3), (13, .newarray .int, 2), (15, .putfield 15, 3), (18, .aload_n 0, 1), (19, .sipush 256, 3), (22, .newarray .int, 2), (24, .putfield 19, 3), (27, .aload_n 0, 1), (28, .sipush 256, 3), (31, .newarray .int, 2), (33, .putfield 22, 3), (36, .aload_n 0, 1), (37, .sipush 256, 3), (40, .newarray .int, 2), (42, .putfield 25, 3), (45, .return_, 1)]
set_option maxRecDepth 100000 in
theorem tbk_X6_init : tbOk cX6_init tb_X6_init = true := by decide +kernel
theorem ok_X6_init : calleeOk wsL_law yX6_init 0 := ⟨by decide +kernel, by decide +kernel, by decide +kernel⟩
set_option maxHeartbeats 4000000 in
set_option maxRecDepth 100000 in
theorem c_X6_init (l : Launch) (D : va_G) (k : ClassId × ClassId) (g : Nat → Nat) (a : Nat) : ConV l yX6_init (Cond.code yX6_init cX6_init 1 none :: wsL_law) ({ frames := 1, cells := 4, slots := 1024, locals := 12 } : Room) D k g [.ref a] [(a, .inr (4, [.int 0, .null, .null, .null, .null, .int 0]))] (fun (u : Nat → Nat) => wdV k u sV0) (fun u => u 0 = a) := by
  refine ConV.ofI (tb := tb_X6_init) (cc := cX6_init) (nL := 1) rfl (by decide) rfl tbk_X6_init (Nat.le_of_ble_eq_true rfl) ?_
  intro x hI hl hD hk hg C rt
  subst hl hD hk hg
  have h9 : Wx x 1 0 0 [(a, .inr (4, [.int 0, .null, .null, .null, .null, .int 0]))] [(0, .ref a)] 0 [] := by
    refine x_aload_n C 0 0 rfl 0 rfl rfl ?_
    refine x_objInit C 1 1 rfl (mc wq_4_14) (mc wq_1_11) (mc wq_1_12) ⟨by decide, Nat.le_of_ble_eq_true rfl⟩ ?_
    refine x_aload_n C 2 4 rfl 0 rfl rfl ?_
    refine x_iconst (v := (2 : Int32)) C 3 5 rfl (by decide) ?_
    refine x_put (ws' := [(a, .inr (4, [.int (2 : Int32), .null, .null, .null, .null, .int 0]))]) C 4 6 rfl fi_X6 tyX6 tyX6_ok nmX6 0 rfl rfl 0 (by decide) (mc wq_4_15) rfl rfl rfl (Nat.le_of_ble_eq_true rfl) rfl ?_
    refine x_aload_n C 5 9 rfl 0 rfl rfl ?_
    refine x_sipush (v := (256 : Int32)) C 6 10 rfl (by decide) ?_
    refine x_newaI C 7 13 256 rfl (mc wq_2_22) (by decide) (by decide) (by decide) ⟨by decide, by decide⟩ (fun q1 => ?_)
    refine x_putF (ws' := [(a, .inr (4, [.int (2 : Int32), .ref q1, .null, .null, .null, .int 0])), (q1, .inl ((xk x).1, 256, .inl (fun _ => 0)))]) C hI 8 15 rfl fi_X6 tyX6 tyX6_ok nmX6 0 rfl rfl 1 (by decide) (mc wq_4_16) rfl rfl rfl rfl (Nat.le_of_ble_eq_true rfl) rfl ?_
    refine x_aload_n C 9 18 rfl 0 rfl rfl ?_
    refine x_sipush (v := (256 : Int32)) C 10 19 rfl (by decide) ?_
    refine x_newaI C 11 22 256 rfl (mc wq_2_22) (by decide) (by decide) (by decide) ⟨by decide, by decide⟩ (fun q2 => ?_)
    refine x_putF (ws' := [(a, .inr (4, [.int (2 : Int32), .ref q1, .ref q2, .null, .null, .int 0])), (q1, .inl ((xk x).1, 256, .inl (fun _ => 0))), (q2, .inl ((xk x).1, 256, .inl (fun _ => 0)))]) C hI 12 24 rfl fi_X6 tyX6 tyX6_ok nmX6 0 rfl rfl 2 (by decide) (mc wq_4_17) rfl rfl rfl rfl (Nat.le_of_ble_eq_true rfl) rfl ?_
    refine x_aload_n C 13 27 rfl 0 rfl rfl ?_
    refine x_sipush (v := (256 : Int32)) C 14 28 rfl (by decide) ?_
    refine x_newaI C 15 31 256 rfl (mc wq_2_22) (by decide) (by decide) (by decide) ⟨by decide, by decide⟩ (fun q3 => ?_)
    refine x_putF (ws' := [(a, .inr (4, [.int (2 : Int32), .ref q1, .ref q2, .ref q3, .null, .int 0])), (q1, .inl ((xk x).1, 256, .inl (fun _ => 0))), (q2, .inl ((xk x).1, 256, .inl (fun _ => 0))), (q3, .inl ((xk x).1, 256, .inl (fun _ => 0)))]) C hI 16 33 rfl fi_X6 tyX6 tyX6_ok nmX6 0 rfl rfl 3 (by decide) (mc wq_4_18) rfl rfl rfl rfl (Nat.le_of_ble_eq_true rfl) rfl ?_
    refine x_aload_n C 17 36 rfl 0 rfl rfl ?_
    refine x_sipush (v := (256 : Int32)) C 18 37 rfl (by decide) ?_
    refine x_newaI C 19 40 256 rfl (mc wq_2_22) (by decide) (by decide) (by decide) ⟨by decide, by decide⟩ (fun q4 => ?_)
    refine x_putF (ws' := [(a, .inr (4, [.int (2 : Int32), .ref q1, .ref q2, .ref q3, .ref q4, .int 0])), (q1, .inl ((xk x).1, 256, .inl (fun _ => 0))), (q2, .inl ((xk x).1, 256, .inl (fun _ => 0))), (q3, .inl ((xk x).1, 256, .inl (fun _ => 0))), (q4, .inl ((xk x).1, 256, .inl (fun _ => 0)))]) C hI 20 42 rfl fi_X6 tyX6 tyX6_ok nmX6 0 rfl rfl 4 (by decide) (mc wq_4_19) rfl rfl rfl rfl (Nat.le_of_ble_eq_true rfl) rfl ?_
    exact x_vret C rt 21 45 rfl (fun i => [a, q1, q2, q3, q4].getD i 0) rfl rfl
  exact h9
def tb_X7_init : Tb := [(0, .aload_n 0, 1), (1, .invokespecial 3, 3), (4, .aload_n 0, 1), (5, .sipush 300, 3), (8, .newarray .int, 2), (10, .putfield 11, 3), (13, .return_, 1)]
set_option maxRecDepth 100000 in
theorem tbk_X7_init : tbOk cX7_init tb_X7_init = true := by decide +kernel
theorem ok_X7_init : calleeOk wsL_law yX7_init 0 := ⟨by decide +kernel, by decide +kernel, by decide +kernel⟩
set_option maxHeartbeats 4000000 in
set_option maxRecDepth 100000 in
theorem c_X7_init (l : Launch) (D : va_G) (k : ClassId × ClassId) (g : Nat → Nat) (a : Nat) : ConV l yX7_init (Cond.code yX7_init cX7_init 1 none :: wsL_law) ({ frames := 1, cells := 1, slots := 300, locals := 12 } : Room) D k g [.ref a] [(a, .inr (5, [.null, .int 0, .int 0, .int 0, .int 0, .int 0, .int 0, .int 0]))] (fun (u : Nat → Nat) => wdT k u s0) (fun u => u 0 = a) := by
  refine ConV.ofI (tb := tb_X7_init) (cc := cX7_init) (nL := 1) rfl (by decide) rfl tbk_X7_init (Nat.le_of_ble_eq_true rfl) ?_
  intro x hI hl hD hk hg C rt
  subst hl hD hk hg
  have h9 : Wx x 1 0 0 [(a, .inr (5, [.null, .int 0, .int 0, .int 0, .int 0, .int 0, .int 0, .int 0]))] [(0, .ref a)] 0 [] := by
    refine x_aload_n C 0 0 rfl 0 rfl rfl ?_
    refine x_objInit C 1 1 rfl (mc wq_2_21) (mc wq_1_11) (mc wq_1_12) ⟨by decide, Nat.le_of_ble_eq_true rfl⟩ ?_
    refine x_aload_n C 2 4 rfl 0 rfl rfl ?_
    refine x_sipush (v := (300 : Int32)) C 3 5 rfl (by decide) ?_
    refine x_newaI C 4 8 300 rfl (mc wq_2_22) (by decide) (by decide) (by decide) ⟨by decide, by decide⟩ (fun q1 => ?_)
    refine x_putF (ws' := [(a, .inr (5, [.ref q1, .int 0, .int 0, .int 0, .int 0, .int 0, .int 0, .int 0])), (q1, .inl ((xk x).1, 300, .inl (fun _ => 0)))]) C hI 5 10 rfl fi_X7 tyX7 tyX7_ok nmX7 0 rfl rfl 0 (by decide) (mc wq_2_23) rfl rfl rfl rfl (Nat.le_of_ble_eq_true rfl) rfl ?_
    exact x_vret C rt 6 13 rfl (fun i => [a, q1].getD i 0) rfl rfl
  exact h9
def tb_X8_init : Tb := [(0, .aload_n 0, 1), (1, .invokespecial 3, 3), (4, .return_, 1)]
set_option maxRecDepth 100000 in
theorem tbk_X8_init : tbOk cX8_init tb_X8_init = true := by decide +kernel
theorem ok_X8_init : calleeOk wsL_law yX8_init 0 := ⟨by decide +kernel, by decide +kernel, by decide +kernel⟩
set_option maxHeartbeats 4000000 in
set_option maxRecDepth 100000 in
theorem c_X8_init (l : Launch) (D : va_G) (k : ClassId × ClassId) (g : Nat → Nat) (a : Nat) : ConV l yX8_init (Cond.code yX8_init cX8_init 1 none :: wsL_law) ({ frames := 1, cells := 0, slots := 0, locals := 12 } : Room) D k g [.ref a] [(a, .inr (6, [.long 0]))] (fun (u : Nat → Nat) => wdW k u 0) (fun u => u 0 = a) := by
  refine ConV.ofI (tb := tb_X8_init) (cc := cX8_init) (nL := 1) rfl (by decide) rfl tbk_X8_init (Nat.le_of_ble_eq_true rfl) ?_
  intro x hI hl hD hk hg C rt
  subst hl hD hk hg
  have h9 : Wx x 1 0 0 [(a, .inr (6, [.long 0]))] [(0, .ref a)] 0 [] := by
    refine x_aload_n C 0 0 rfl 0 rfl rfl ?_
    refine x_objInit C 1 1 rfl (mc wq_4_22) (mc wq_1_11) (mc wq_1_12) ⟨by decide, Nat.le_of_ble_eq_true rfl⟩ ?_
    exact x_vret C rt 2 4 rfl (fun _ => a) rfl rfl
  exact h9
def tb_X4_init : Tb := [(0, .aload_n 0, 1), (1, .invokespecial 3, 3), (4, .aload_n 0, 1), (5, .new 9, 3), (8, .dup, 1), (9, .invokespecial 11, 3), (12, .putfield 12, 3), (15, .aload_n 0, 1), (16, .sipush 256, 3), (19, .newarray .int, 2), (21, .putfield 18, 3), (24, .aload_n 0, 1), (25, .iconst (-1), 1), (26, .putfield 22, 3), (29, .aload_n 0, 1), (30, .bipush 72, 2), (32, .newarray .int, 2), (34, .putfield 28, 3), (37, .return_, 1)]
set_option maxRecDepth 100000 in
theorem tbk_X4_init : tbOk cX4_init tb_X4_init = true := by decide +kernel
theorem ok_X4_init : calleeOk wsL_law yX4_init 0 := ⟨by decide +kernel, by decide +kernel, by decide +kernel⟩
set_option maxHeartbeats 4000000 in
set_option maxRecDepth 100000 in
theorem c_X4_init (l : Launch) (D : va_G) (k : ClassId × ClassId) (g : Nat → Nat) (a : Nat) : ConV l yX4_init (Cond.code yX4_init cX4_init 1 none :: wsL_law) ({ frames := 2, cells := 10, slots := 6908, locals := 43 } : Room) D k g [.ref a] [(a, .inr (2, [.null, .null, .int 0, .int 0, .null, .int 0, .int 0, .int 0]))] (fun (u : (Nat → Nat) × (Nat → Nat)) => (wdM k u.1 u.2 sM0 ++ wdK k u.2 sK0)) (fun u => u.1 0 = a) := by
  refine ConV.ofI (tb := tb_X4_init) (cc := cX4_init) (nL := 1) rfl (by decide) rfl tbk_X4_init (Nat.le_of_ble_eq_true rfl) ?_
  intro x hI hl hD hk hg C rt
  subst hl hD hk hg
  have h9 : Wx x 1 0 0 [(a, .inr (2, [.null, .null, .int 0, .int 0, .null, .int 0, .int 0, .int 0]))] [(0, .ref a)] 0 [] := by
    refine x_aload_n C 0 0 rfl 0 rfl rfl ?_
    refine x_objInit C 1 1 rfl (mc wq_4_5) (mc wq_1_11) (mc wq_1_12) ⟨by decide, Nat.le_of_ble_eq_true rfl⟩ ?_
    refine x_aload_n C 2 4 rfl 0 rfl rfl ?_
    refine x_new (ci := 1) (fs := [.null, .null, .null, .null, .null, .null, .null, .int 0, .int 0, .int 0, .int 0, .int 0]) C 3 5 rfl fi_X2 tyX2 tyX2_ok (mc wq_4_6) (mc wq_2_3) (mc wq_2_4) rfl (fun j hj => match j, hj with | 0, _ => rfl | 1, _ => rfl | 2, _ => rfl | 3, _ => rfl | 4, _ => rfl | 5, _ => rfl | 6, _ => rfl | 7, _ => rfl | 8, _ => rfl | 9, _ => rfl | 10, _ => rfl | 11, _ => rfl | t + 12, h => absurd h (by omega)) ⟨by decide, by decide⟩ (fun q1 => ?_)
    refine x_dup C 4 8 rfl rfl ?_
    refine x_initA C 5 9 (c_X2_init (xl x) (xD x) (xk x) (xg x) q1) rfl wwGood (mem3 wq_4_11 wq_3_12 wq_2_4) wq_3_13 ok_X2_init rfl ⟨by decide, by decide⟩ (Nat.le_of_ble_eq_true rfl) ⟨by decide, by decide⟩ (fun u2 hu2 => ?_)
    have hq2 : q1 = u2 0 := hu2.symm
    rw [hq2]
    refine x_putF (ws' := ([(a, .inr (2, [.ref (u2 0), .null, .int 0, .int 0, .null, .int 0, .int 0, .int 0]))] ++ wdK (xk x) u2 sK0)) C hI 6 12 rfl fi_X4 tyX4 tyX4_ok nmX4 0 rfl rfl 0 (by decide) (mc wq_4_7) rfl rfl rfl rfl (Nat.le_of_ble_eq_true rfl) rfl ?_
    refine x_aload_n C 7 15 rfl 0 rfl rfl ?_
    refine x_sipush (v := (256 : Int32)) C 8 16 rfl (by decide) ?_
    refine x_newaI C 9 19 256 rfl (mc wq_2_22) (by decide) (by decide) (by decide) ⟨by decide, by decide⟩ (fun q3 => ?_)
    refine x_putF (ws' := (([(a, .inr (2, [.ref (u2 0), .ref q3, .int 0, .int 0, .null, .int 0, .int 0, .int 0]))] ++ wdK (xk x) u2 sK0) ++ [(q3, .inl ((xk x).1, 256, .inl (fun _ => 0)))])) C hI 10 21 rfl fi_X4 tyX4 tyX4_ok nmX4 0 rfl rfl 1 (by decide) (mc wq_4_8) rfl rfl rfl rfl (Nat.le_of_ble_eq_true rfl) rfl ?_
    refine x_aload_n C 11 24 rfl 0 rfl rfl ?_
    refine x_iconst (v := (-1 : Int32)) C 12 25 rfl (by decide) ?_
    refine x_put (ws' := (([(a, .inr (2, [.ref (u2 0), .ref q3, .int 0, .int (-1 : Int32), .null, .int 0, .int 0, .int 0]))] ++ wdK (xk x) u2 sK0) ++ [(q3, .inl ((xk x).1, 256, .inl (fun _ => 0)))])) C 13 26 rfl fi_X4 tyX4 tyX4_ok nmX4 0 rfl rfl 3 (by decide) (mc wq_4_9) rfl rfl rfl (Nat.le_of_ble_eq_true rfl) rfl ?_
    refine x_aload_n C 14 29 rfl 0 rfl rfl ?_
    refine x_bipush (v := (72 : Int32)) C 15 30 rfl (by decide) ?_
    refine x_newaI C 16 32 72 rfl (mc wq_2_22) (by decide) (by decide) (by decide) ⟨by decide, by decide⟩ (fun q4 => ?_)
    refine x_putF (ws' := ((([(a, .inr (2, [.ref (u2 0), .ref q3, .int 0, .int (-1 : Int32), .ref q4, .int 0, .int 0, .int 0]))] ++ wdK (xk x) u2 sK0) ++ [(q3, .inl ((xk x).1, 256, .inl (fun _ => 0)))]) ++ [(q4, .inl ((xk x).1, 72, .inl (fun _ => 0)))])) C hI 17 34 rfl fi_X4 tyX4 tyX4_ok nmX4 0 rfl rfl 4 (by decide) (mc wq_4_10) rfl rfl rfl rfl (Nat.le_of_ble_eq_true rfl) rfl ?_
    refine x_perm (ws' := (wdM (xk x) (fun i => [a, q3, q4].getD i 0) u2 sM0 ++ wdK (xk x) u2 sK0)) [0, 9, 10, 1, 2, 3, 4, 5, 6, 7, 8] (show List.Perm [0, 9, 10, 1, 2, 3, 4, 5, 6, 7, 8] (List.range 11) by decide) rfl ?_
    exact x_vret C rt 18 37 rfl ((fun i => [a, q3, q4].getD i 0), u2) rfl rfl
  exact h9
def tb_X9_init : Tb := [(0, .aload_n 0, 1), (1, .invokespecial 1, 3), (4, .aload_n 0, 1), (5, .new 7, 3), (8, .dup, 1), (9, .invokespecial 9, 3), (12, .putfield 10, 3), (15, .aload_n 0, 1), (16, .new 16, 3), (19, .dup, 1), (20, .invokespecial 18, 3), (23, .putfield 19, 3), (26, .aload_n 0, 1), (27, .new 16, 3), (30, .dup, 1), (31, .invokespecial 18, 3), (34, .putfield 23, 3), (37, .aload_n 0, 1), (38, .new 26, 3), (41, .dup, 1), (42, .invokespecial 28, 3), (45, .putfield 29, 3), (48, .aload_n 0, 1), (49, .new 33, 3), (52, .dup, 1), (53, .invokespecial 35, 3), (56, .putfield 36, 3), (59, .aload_n 0, 1), (60, .new 40, 3), (63, .dup, 1), (64, .invokespecial 42, 3), (67, .putfield 43, 3), (70, .aload_n 0, 1), (71, .new 47, 3), (74, .dup, 1), (75, .invokespecial 49, 3), (78, .putfield 50, 3), (81, .aload_n 0, 1), (82, .new 54, 3), (85, .dup, 1), (86, .invokespecial 56, 3), (89, .putfield 57, 3), (92, .aload_n 0, 1), (93, .iconst 0, 1), (94, .putfield 61, 3), (97, .return_, 1)]
set_option maxRecDepth 100000 in
theorem tbk_X9_init : tbOk cX9_init tb_X9_init = true := by decide +kernel
theorem ok_X9_init : calleeOk wsL_law yX9_init 0 := ⟨by decide +kernel, by decide +kernel, by decide +kernel⟩
set_option maxHeartbeats 4000000 in
set_option maxRecDepth 100000 in
theorem c_X9_init (l : Launch) (D : va_G) (k : ClassId × ClassId) (g : Nat → Nat) (a : Nat) : ConV l yX9_init (Cond.code yX9_init cX9_init 1 none :: wsL_law) ({ frames := 3, cells := 39, slots := 14915, locals := 63 } : Room) D k g [.ref a] [(a, .inr (7, [.null, .null, .null, .null, .null, .null, .null, .null, .int 0]))] (fun (u : (Nat → Nat) × (Nat → Nat) × (Nat → Nat) × (Nat → Nat) × (Nat → Nat) × (Nat → Nat) × (Nat → Nat) × (Nat → Nat) × (Nat → Nat) × (Nat → Nat)) => fl [wdX k u.1 u.2.1 u.2.2.1 u.2.2.2.1 u.2.2.2.2.1 u.2.2.2.2.2.1 u.2.2.2.2.2.2.1 u.2.2.2.2.2.2.2.2.1 u.2.2.2.2.2.2.2.2.2 s0, wdT k u.2.1 s0, wdB k u.2.2.1 s0, wdB k u.2.2.2.1 s0, wdR k u.2.2.2.2.1 s0, wdK k u.2.2.2.2.2.1 sK0, wdM k u.2.2.2.2.2.2.1 u.2.2.2.2.2.2.2.1 sM0, wdK k u.2.2.2.2.2.2.2.1 sK0, wdV k u.2.2.2.2.2.2.2.2.1 sV0, wdW k u.2.2.2.2.2.2.2.2.2 0]) (fun u => u.1 0 = a) := by
  refine ConV.ofI (tb := tb_X9_init) (cc := cX9_init) (nL := 1) rfl (by decide) rfl tbk_X9_init (Nat.le_of_ble_eq_true rfl) ?_
  intro x hI hl hD hk hg C rt
  subst hl hD hk hg
  have h9 : Wx x 1 0 0 [(a, .inr (7, [.null, .null, .null, .null, .null, .null, .null, .null, .int 0]))] [(0, .ref a)] 0 [] := by
    refine x_aload_n C 0 0 rfl 0 rfl rfl ?_
    refine x_objInit C 1 1 rfl (mc wq_1_10) (mc wq_1_11) (mc wq_1_12) ⟨by decide, Nat.le_of_ble_eq_true rfl⟩ ?_
    refine x_aload_n C 2 4 rfl 0 rfl rfl ?_
    refine x_new (ci := 5) (fs := [.null, .int 0, .int 0, .int 0, .int 0, .int 0, .int 0, .int 0]) C 3 5 rfl fi_X7 tyX7 tyX7_ok (mc wq_1_13) (mc wq_1_14) (mc wq_1_15) rfl (fun j hj => match j, hj with | 0, _ => rfl | 1, _ => rfl | 2, _ => rfl | 3, _ => rfl | 4, _ => rfl | 5, _ => rfl | 6, _ => rfl | 7, _ => rfl | t + 8, h => absurd h (by omega)) ⟨by decide, by decide⟩ (fun q1 => ?_)
    refine x_dup C 4 8 rfl rfl ?_
    refine x_initN C 5 9 (c_X7_init (xl x) (xD x) (xk x) (xg x) q1) rfl wwGood (fun _ h => h.1) (mem3 wq_2_19 wq_1_15 wq_1_15) wq_2_20 ok_X7_init rfl ⟨by decide, by decide⟩ (Nat.le_of_ble_eq_true rfl) ⟨by decide, by decide⟩ (fun u2 hu2 => ?_)
    have hq2 : q1 = u2 0 := hu2.symm
    rw [hq2]
    refine x_putF (ws' := ([(a, .inr (7, [.ref (u2 0), .null, .null, .null, .null, .null, .null, .null, .int 0]))] ++ wdT (xk x) u2 s0)) C hI 6 12 rfl fi_X9 tyX9 tyX9_ok nmX9 0 rfl rfl 0 (by decide) (mc wq_1_16) rfl rfl rfl rfl (Nat.le_of_ble_eq_true rfl) rfl ?_
    refine x_aload_n C 7 15 rfl 0 rfl rfl ?_
    refine x_new (ci := 0) (fs := [.null, .null, .null, .null, .int 0]) C 8 16 rfl fi_X1 tyX1 tyX1_ok (mc wq_1_17) (mc wq_1_18) (mc wq_1_19) rfl (fun j hj => match j, hj with | 0, _ => rfl | 1, _ => rfl | 2, _ => rfl | 3, _ => rfl | 4, _ => rfl | t + 5, h => absurd h (by omega)) ⟨by decide, by decide⟩ (fun q3 => ?_)
    refine x_dup C 9 19 rfl rfl ?_
    refine x_initN C 10 20 (c_X1_init (xl x) (xD x) (xk x) (xg x) q3) rfl wwGood (fun _ h => h.2.1) (mem3 wq_3_0 wq_1_19 wq_1_19) wq_3_1 ok_X1_init rfl ⟨by decide, by decide⟩ (Nat.le_of_ble_eq_true rfl) ⟨by decide, by decide⟩ (fun u4 hu4 => ?_)
    have hq4 : q3 = u4 0 := hu4.symm
    rw [hq4]
    refine x_putF (ws' := (([(a, .inr (7, [.ref (u2 0), .ref (u4 0), .null, .null, .null, .null, .null, .null, .int 0]))] ++ wdT (xk x) u2 s0) ++ wdB (xk x) u4 s0)) C hI 11 23 rfl fi_X9 tyX9 tyX9_ok nmX9 0 rfl rfl 1 (by decide) (mc wq_1_20) rfl rfl rfl rfl (Nat.le_of_ble_eq_true rfl) rfl ?_
    refine x_aload_n C 12 26 rfl 0 rfl rfl ?_
    refine x_new (ci := 0) (fs := [.null, .null, .null, .null, .int 0]) C 13 27 rfl fi_X1 tyX1 tyX1_ok (mc wq_1_17) (mc wq_1_18) (mc wq_1_19) rfl (fun j hj => match j, hj with | 0, _ => rfl | 1, _ => rfl | 2, _ => rfl | 3, _ => rfl | 4, _ => rfl | t + 5, h => absurd h (by omega)) ⟨by decide, by decide⟩ (fun q5 => ?_)
    refine x_dup C 14 30 rfl rfl ?_
    refine x_initN C 15 31 (c_X1_init (xl x) (xD x) (xk x) (xg x) q5) rfl wwGood (fun _ h => h.2.1) (mem3 wq_3_0 wq_1_19 wq_1_19) wq_3_1 ok_X1_init rfl ⟨by decide, by decide⟩ (Nat.le_of_ble_eq_true rfl) ⟨by decide, by decide⟩ (fun u6 hu6 => ?_)
    have hq6 : q5 = u6 0 := hu6.symm
    rw [hq6]
    refine x_putF (ws' := ((([(a, .inr (7, [.ref (u2 0), .ref (u4 0), .ref (u6 0), .null, .null, .null, .null, .null, .int 0]))] ++ wdT (xk x) u2 s0) ++ wdB (xk x) u4 s0) ++ wdB (xk x) u6 s0)) C hI 16 34 rfl fi_X9 tyX9 tyX9_ok nmX9 0 rfl rfl 2 (by decide) (mc wq_1_21) rfl rfl rfl rfl (Nat.le_of_ble_eq_true rfl) rfl ?_
    refine x_aload_n C 17 37 rfl 0 rfl rfl ?_
    refine x_new (ci := 3) (fs := [.null, .int 0]) C 18 38 rfl fi_X5 tyX5 tyX5_ok (mc wq_1_22) (mc wq_1_23) (mc wq_2_0) rfl (fun j hj => match j, hj with | 0, _ => rfl | 1, _ => rfl | t + 2, h => absurd h (by omega)) ⟨by decide, by decide⟩ (fun q7 => ?_)
    refine x_dup C 19 41 rfl rfl ?_
    refine x_initN C 20 42 (c_X5_init (xl x) (xD x) (xk x) (xg x) q7) rfl wwGood (fun _ h => h.2.2.1) (mem3 wq_3_7 wq_2_0 wq_2_0) wq_3_8 ok_X5_init rfl ⟨by decide, by decide⟩ (Nat.le_of_ble_eq_true rfl) ⟨by decide, by decide⟩ (fun u8 hu8 => ?_)
    have hq8 : q7 = u8 0 := hu8.symm
    rw [hq8]
    refine x_putF (ws' := (((([(a, .inr (7, [.ref (u2 0), .ref (u4 0), .ref (u6 0), .ref (u8 0), .null, .null, .null, .null, .int 0]))] ++ wdT (xk x) u2 s0) ++ wdB (xk x) u4 s0) ++ wdB (xk x) u6 s0) ++ wdR (xk x) u8 s0)) C hI 21 45 rfl fi_X9 tyX9 tyX9_ok nmX9 0 rfl rfl 3 (by decide) (mc wq_2_1) rfl rfl rfl rfl (Nat.le_of_ble_eq_true rfl) rfl ?_
    refine x_aload_n C 22 48 rfl 0 rfl rfl ?_
    refine x_new (ci := 1) (fs := [.null, .null, .null, .null, .null, .null, .null, .int 0, .int 0, .int 0, .int 0, .int 0]) C 23 49 rfl fi_X2 tyX2 tyX2_ok (mc wq_2_2) (mc wq_2_3) (mc wq_2_4) rfl (fun j hj => match j, hj with | 0, _ => rfl | 1, _ => rfl | 2, _ => rfl | 3, _ => rfl | 4, _ => rfl | 5, _ => rfl | 6, _ => rfl | 7, _ => rfl | 8, _ => rfl | 9, _ => rfl | 10, _ => rfl | 11, _ => rfl | t + 12, h => absurd h (by omega)) ⟨by decide, by decide⟩ (fun q9 => ?_)
    refine x_dup C 24 52 rfl rfl ?_
    refine x_initA C 25 53 (c_X2_init (xl x) (xD x) (xk x) (xg x) q9) rfl wwGood (mem3 wq_3_11 wq_3_12 wq_2_4) wq_3_13 ok_X2_init rfl ⟨by decide, by decide⟩ (Nat.le_of_ble_eq_true rfl) ⟨by decide, by decide⟩ (fun u10 hu10 => ?_)
    have hq10 : q9 = u10 0 := hu10.symm
    rw [hq10]
    refine x_putF (ws' := ((((([(a, .inr (7, [.ref (u2 0), .ref (u4 0), .ref (u6 0), .ref (u8 0), .ref (u10 0), .null, .null, .null, .int 0]))] ++ wdT (xk x) u2 s0) ++ wdB (xk x) u4 s0) ++ wdB (xk x) u6 s0) ++ wdR (xk x) u8 s0) ++ wdK (xk x) u10 sK0)) C hI 26 56 rfl fi_X9 tyX9 tyX9_ok nmX9 0 rfl rfl 4 (by decide) (mc wq_2_5) rfl rfl rfl rfl (Nat.le_of_ble_eq_true rfl) rfl ?_
    refine x_aload_n C 27 59 rfl 0 rfl rfl ?_
    refine x_new (ci := 2) (fs := [.null, .null, .int 0, .int 0, .null, .int 0, .int 0, .int 0]) C 28 60 rfl fi_X4 tyX4 tyX4_ok (mc wq_2_6) (mc wq_2_7) (mc wq_2_8) rfl (fun j hj => match j, hj with | 0, _ => rfl | 1, _ => rfl | 2, _ => rfl | 3, _ => rfl | 4, _ => rfl | 5, _ => rfl | 6, _ => rfl | 7, _ => rfl | t + 8, h => absurd h (by omega)) ⟨by decide, by decide⟩ (fun q11 => ?_)
    refine x_dup C 29 63 rfl rfl ?_
    refine x_initN C 30 64 (c_X4_init (xl x) (xD x) (xk x) (xg x) q11) rfl wwGood (fun _ h => h.2.2.2.1) (mem3 wq_4_3 wq_2_8 wq_2_8) wq_4_4 ok_X4_init rfl ⟨by decide, by decide⟩ (Nat.le_of_ble_eq_true rfl) ⟨by decide, by decide⟩ (fun u12 hu12 => ?_)
    have hq12 : q11 = u12.1 0 := hu12.symm
    rw [hq12]
    refine x_putF (ws' := (((((([(a, .inr (7, [.ref (u2 0), .ref (u4 0), .ref (u6 0), .ref (u8 0), .ref (u10 0), .ref (u12.1 0), .null, .null, .int 0]))] ++ wdT (xk x) u2 s0) ++ wdB (xk x) u4 s0) ++ wdB (xk x) u6 s0) ++ wdR (xk x) u8 s0) ++ wdK (xk x) u10 sK0) ++ (wdM (xk x) u12.1 u12.2 sM0 ++ wdK (xk x) u12.2 sK0))) C hI 31 67 rfl fi_X9 tyX9 tyX9_ok nmX9 0 rfl rfl 5 (by decide) (mc wq_2_9) rfl rfl rfl rfl (Nat.le_of_ble_eq_true rfl) rfl ?_
    refine x_aload_n C 32 70 rfl 0 rfl rfl ?_
    refine x_new (ci := 4) (fs := [.int 0, .null, .null, .null, .null, .int 0]) C 33 71 rfl fi_X6 tyX6 tyX6_ok (mc wq_2_10) (mc wq_2_11) (mc wq_2_12) rfl (fun j hj => match j, hj with | 0, _ => rfl | 1, _ => rfl | 2, _ => rfl | 3, _ => rfl | 4, _ => rfl | 5, _ => rfl | t + 6, h => absurd h (by omega)) ⟨by decide, by decide⟩ (fun q13 => ?_)
    refine x_dup C 34 74 rfl rfl ?_
    refine x_initN C 35 75 (c_X6_init (xl x) (xD x) (xk x) (xg x) q13) rfl wwGood (fun _ h => h.2.2.2.2.1) (mem3 wq_4_12 wq_2_12 wq_2_12) wq_4_13 ok_X6_init rfl ⟨by decide, by decide⟩ (Nat.le_of_ble_eq_true rfl) ⟨by decide, by decide⟩ (fun u14 hu14 => ?_)
    have hq14 : q13 = u14 0 := hu14.symm
    rw [hq14]
    refine x_putF (ws' := ((((((([(a, .inr (7, [.ref (u2 0), .ref (u4 0), .ref (u6 0), .ref (u8 0), .ref (u10 0), .ref (u12.1 0), .ref (u14 0), .null, .int 0]))] ++ wdT (xk x) u2 s0) ++ wdB (xk x) u4 s0) ++ wdB (xk x) u6 s0) ++ wdR (xk x) u8 s0) ++ wdK (xk x) u10 sK0) ++ (wdM (xk x) u12.1 u12.2 sM0 ++ wdK (xk x) u12.2 sK0)) ++ wdV (xk x) u14 sV0)) C hI 36 78 rfl fi_X9 tyX9 tyX9_ok nmX9 0 rfl rfl 6 (by decide) (mc wq_2_13) rfl rfl rfl rfl (Nat.le_of_ble_eq_true rfl) rfl ?_
    refine x_aload_n C 37 81 rfl 0 rfl rfl ?_
    refine x_new (ci := 6) (fs := [.long 0]) C 38 82 rfl fi_X8 tyX8 tyX8_ok (mc wq_2_14) (mc wq_2_15) (mc wq_2_16) rfl (fun j hj => match j, hj with | 0, _ => rfl | t + 1, h => absurd h (by omega)) ⟨by decide, by decide⟩ (fun q15 => ?_)
    refine x_dup C 39 85 rfl rfl ?_
    refine x_initN C 40 86 (c_X8_init (xl x) (xD x) (xk x) (xg x) q15) rfl wwGood (fun _ h => h.2.2.2.2.2) (mem3 wq_4_20 wq_2_16 wq_2_16) wq_4_21 ok_X8_init rfl ⟨by decide, by decide⟩ (Nat.le_of_ble_eq_true rfl) ⟨by decide, by decide⟩ (fun u16 hu16 => ?_)
    have hq16 : q15 = u16 0 := hu16.symm
    rw [hq16]
    refine x_putF (ws' := (((((((([(a, .inr (7, [.ref (u2 0), .ref (u4 0), .ref (u6 0), .ref (u8 0), .ref (u10 0), .ref (u12.1 0), .ref (u14 0), .ref (u16 0), .int 0]))] ++ wdT (xk x) u2 s0) ++ wdB (xk x) u4 s0) ++ wdB (xk x) u6 s0) ++ wdR (xk x) u8 s0) ++ wdK (xk x) u10 sK0) ++ (wdM (xk x) u12.1 u12.2 sM0 ++ wdK (xk x) u12.2 sK0)) ++ wdV (xk x) u14 sV0) ++ wdW (xk x) u16 0)) C hI 41 89 rfl fi_X9 tyX9 tyX9_ok nmX9 0 rfl rfl 7 (by decide) (mc wq_2_17) rfl rfl rfl rfl (Nat.le_of_ble_eq_true rfl) rfl ?_
    refine x_aload_n C 42 92 rfl 0 rfl rfl ?_
    refine x_iconst (v := (0 : Int32)) C 43 93 rfl (by decide) ?_
    refine x_put (ws' := (((((((([(a, .inr (7, [.ref (u2 0), .ref (u4 0), .ref (u6 0), .ref (u8 0), .ref (u10 0), .ref (u12.1 0), .ref (u14 0), .ref (u16 0), .int (0 : Int32)]))] ++ wdT (xk x) u2 s0) ++ wdB (xk x) u4 s0) ++ wdB (xk x) u6 s0) ++ wdR (xk x) u8 s0) ++ wdK (xk x) u10 sK0) ++ (wdM (xk x) u12.1 u12.2 sM0 ++ wdK (xk x) u12.2 sK0)) ++ wdV (xk x) u14 sV0) ++ wdW (xk x) u16 0)) C 44 94 rfl fi_X9 tyX9 tyX9_ok nmX9 0 rfl rfl 8 (by decide) (mc wq_2_18) rfl (zb_n zb_0) (zb_f zb_0) (Nat.le_of_ble_eq_true rfl) rfl ?_
    exact x_vret C rt 45 97 rfl ((fun _ => a), u2, u4, u6, u8, u10, u12.1, u12.2, u14, u16) rfl rfl
  exact h9
def tb_X10_init : Tb := [(0, .aload_n 0, 1), (1, .invokespecial 1, 3), (4, .aload_n 0, 1), (5, .sipush 300, 3), (8, .newarray .int, 2), (10, .putfield 7, 3), (13, .aload_n 0, 1), (14, .iconst 4, 1), (15, .newarray .int, 2), (17, .putfield 13, 3), (20, .aload_n 0, 1), (21, .bipush 8, 2), (23, .newarray .int, 2), (25, .putfield 16, 3), (28, .aload_n 0, 1), (29, .bipush 8, 2), (31, .newarray .int, 2), (33, .putfield 19, 3), (36, .aload_n 0, 1), (37, .bipush 72, 2), (39, .newarray .int, 2), (41, .putfield 22, 3), (44, .aload_n 0, 1), (45, .bipush 12, 2), (47, .newarray .int, 2), (49, .putfield 25, 3), (52, .aload_n 0, 1), (53, .iconst 2, 1), (54, .putfield 28, 3), (57, .aload_n 0, 1), (58, .bipush 10, 2), (60, .newarray .int, 2), (62, .putfield 32, 3), (65, .aload_n 0, 1), (66, .iconst 4, 1), (67, .newarray .int, 2), (69, .putfield 35, 3), (72, .aload_n 0, 1), (73, .iconst 4, 1), (74, .newarray .boolean, 2), (76, .putfield 38, 3), (79, .aload_n 0, 1), (80, .bipush 8, 2), (82, .newarray .int, 2), (84, .putfield 42, 3), (87, .aload_n 0, 1), (88, .bipush 8, 2), (90, .newarray .int, 2), (92, .putfield 45, 3), (95, .aload_n 0, 1), (96, .bipush 72, 2), (98, .newarray .int, 2), (100, .putfield 48, 3), (103, .aload_n 0, 1), (104, .sipush 1000, 3), (107, .newarray .int, 2), (109, .putfield 51, 3), (112, .aload_n 0, 1), (113, .sipush 1000, 3), (116, .newarray .int, 2), (118, .putfield 54, 3), (121, .aload_n 0, 1), (122, .sipush 1000, 3), (125, .newarray .int, 2), (127, .putfield 57, 3), (130, .aload_n 0, 1), (131, .ldc 60, 2), (133, .newarray .int, 2), (135, .putfield 61, 3), (138, .aload_n 0, 1), (139, .ldc 60, 2), (141, .newarray .int, 2), (143, .putfield 64, 3), (146, .aload_n 0, 1), (147, .sipush 1000, 3), (150, .newarray .int, 2), (152, .putfield 67, 3), (155, .aload_n 0, 1), (156, .sipush 1000, 3), (159, .newarray .int, 2), (161, .putfield 70, 3), (164, .aload_n 0, 1), (165, .iconst 3, 1), (166, .newarray .int, 2), (168, .putfield 73, 3), (171, .aload_n 0, 1), (172, .sipush 256, 3), (175, .newarray .int, 2), (177, .putfield 76, 3), (180, .aload_n 0, 1), (181, .getfield 32, 3), (184, .iconst 0, 1), (185, .iconst 1, 1), (186, .iastore, 1), (187, .iconst 1, 1), (188, .istore_n 1, 1), (189, .iload_n 1, 1), (190, .bipush 10, 2), (192, .if_icmp .ge 25, 3), (195, .aload_n 0, 1), (196, .getfield 32, 3), (199, .iload_n 1, 1), (200, .iconst 3, 1), (201, .aload_n 0, 1), (202, .getfield 32, 3), (205, .iload_n 1, 1), (206, .iconst 1, 1), (207, .isub, 1), (208, .iaload, 1), (209, .imul, 1), (210, .iastore, 1), (211, .iinc 1 1, 3), (214, .goto (-25), 3), (217, .return_, 1)]
set_option maxRecDepth 100000 in
theorem tbk_X10_init : tbOk cX10_init tb_X10_init = true := by decide +kernel
theorem ok_X10_init : calleeOk wsL_law yX10_init 0 := ⟨by decide +kernel, by decide +kernel, by decide +kernel⟩
def F_X10_init_189 (K : St → Prop) (R189 : Int32 × St → Prop) (q2 : Int32 × St) : Prop :=
  (((10 : Int32) ≤ q2.1 → (K q2.2)) ∧ (¬ (10 : Int32) ≤ q2.1 → ((vp_in (q2.1 - (1 : Int32)) 10 ∧ ((vp_in q2.1 10 ∧ (∀ z4 : St, z4 = ua q2.2 11 q2.1 ((3 : Int32) * q2.2 11 (q2.1 - (1 : Int32)).toNatClampNeg) → (∀ y5 : Int32, y5 = q2.1 + (1 : Int32) → (R189 (y5, z4))))))))))
def wp_X10_init (K : St → Prop) : Prop := ∀ sS : St, sS = sS1 → (∀ z1 : St, z1 = ua sS 11 (0 : Int32) (1 : Int32) → (Lp (F_X10_init_189 K) ((1 : Int32), z1)))
set_option maxHeartbeats 4000000 in
set_option maxRecDepth 100000 in
theorem w_X10_init_189 {x : CT} {aS : Nat → Nat} {a : Nat} (hA0 : aS 0 = a) {K : St → Prop} (C : Cx x cX10_init tb_X10_init 2 RX10 (Cond.code yX10_init cX10_init 2 none :: wsL_law) ({ frames := 1, cells := 21, slots := 635625, locals := 12 } : Room)) (rt : RetV x 21 635625 (fun (u : (Nat → Nat) × St) => wdS (xk x) u.1 u.2 0) (fun u => u.1 0 = a ∧ K u.2))  {q2 : Int32 × St} (h : Lp (F_X10_init_189 K) q2) : Wx x 2 21 635625 (fl [wdS (xk x) aS q2.2 (0 : Int64)]) [(0, .ref (aS 0)), (1, .int q2.1)] 189 [] := by
  refine lp_walk (P := fun q2 => Wx x 2 21 635625 (fl [wdS (xk x) aS q2.2 (0 : Int64)]) [(0, .ref (aS 0)), (1, .int q2.1)] 189 []) (fun q2 R189 hR189 h => ?_) h
  refine x_iload_n C 96 189 rfl 1 rfl rfl ?_
  refine x_bipush (v := (10 : Int32)) C 97 190 rfl (by decide) ?_
  refine x_icmp_ge C 98 192 217 rfl rfl (fun c3 => ?_) (fun c3 => ?_)
  · replace h := h.1 c3
    exact x_vret C rt 113 217 rfl (aS, q2.2) rfl ⟨hA0, h⟩
  · replace h := h.2 c3
    refine x_aload_n C 99 195 rfl 0 rfl rfl ?_
    refine x_get (v := .ref (aS 7)) C 100 196 rfl fi_X10 0 rfl rfl 11 (by decide) (mc wq_5_10) rfl ?_
    refine x_iload_n C 101 199 rfl 1 rfl rfl ?_
    refine x_iconst (v := (3 : Int32)) C 102 200 rfl (by decide) ?_
    refine x_aload_n C 103 201 rfl 0 rfl rfl ?_
    refine x_get (v := .ref (aS 7)) C 104 202 rfl fi_X10 0 rfl rfl 11 (by decide) (mc wq_5_10) rfl ?_
    refine x_iload_n C 105 205 rfl 1 rfl rfl ?_
    refine x_iconst (v := (1 : Int32)) C 106 206 rfl (by decide) ?_
    refine x_isub C 107 207 rfl ?_
    obtain ⟨hi, h⟩ := h
    refine x_iald (f := q2.2 11) C 108 208 rfl 7 rfl hi ?_
    refine x_imul C 109 209 rfl ?_
    obtain ⟨hi, h⟩ := h
    obtain ⟨z4, ez4⟩ : ∃ z : St, z = ua q2.2 11 q2.1 ((3 : Int32) * q2.2 11 (q2.1 - (1 : Int32)).toNatClampNeg) := ⟨_, rfl⟩
    replace h := h z4 ez4
    refine x_iast (f := q2.2 11) (ws' := fl [wdS (xk x) aS z4 (0 : Int64)]) C 110 210 rfl 7 rfl hi (by rw [ez4]; rfl) ?_
    obtain ⟨y5, ey5⟩ : ∃ y : Int32, y = q2.1 + (1 : Int32) := ⟨_, rfl⟩
    replace h := h y5 ey5
    refine x_iinc (v := y5) (lv' := [(0, .ref (aS 0)), (1, .int y5)]) C 111 211 rfl 1 rfl (by rw [ey5]; rfl) (by decide) [1, 0] rfl ?_
    refine x_goto C 112 214 189 rfl rfl ?_
    exact x_sub [0, 1] rfl (hR189 (y5, z4) h)
set_option maxHeartbeats 4000000 in
set_option maxRecDepth 100000 in
theorem w_X10_init_180 {x : CT} {aS : Nat → Nat} {a : Nat} (hA0 : aS 0 = a) {sS : St} {K : St → Prop} (C : Cx x cX10_init tb_X10_init 2 RX10 (Cond.code yX10_init cX10_init 2 none :: wsL_law) ({ frames := 1, cells := 21, slots := 635625, locals := 12 } : Room)) (rt : RetV x 21 635625 (fun (u : (Nat → Nat) × St) => wdS (xk x) u.1 u.2 0) (fun u => u.1 0 = a ∧ K u.2)) (h : ∀ z1 : St, z1 = ua sS 11 (0 : Int32) (1 : Int32) → (Lp (F_X10_init_189 K) ((1 : Int32), z1))) : Wx x 2 21 635625 (fl [wdS (xk x) aS sS (0 : Int64)]) [(0, .ref (aS 0))] 180 [] := by
  refine x_aload_n C 89 180 rfl 0 rfl rfl ?_
  refine x_get (v := .ref (aS 7)) C 90 181 rfl fi_X10 0 rfl rfl 11 (by decide) (mc wq_5_10) rfl ?_
  refine x_iconst (v := (0 : Int32)) C 91 184 rfl (by decide) ?_
  refine x_iconst (v := (1 : Int32)) C 92 185 rfl (by decide) ?_
  obtain ⟨z1, ez1⟩ : ∃ z : St, z = ua sS 11 (0 : Int32) (1 : Int32) := ⟨_, rfl⟩
  replace h := h z1 ez1
  refine x_iast (f := sS 11) (ws' := fl [wdS (xk x) aS z1 (0 : Int64)]) C 93 186 rfl 7 rfl (vpi rfl) (by rw [ez1]; rfl) ?_
  refine x_iconst (v := (1 : Int32)) C 94 187 rfl (by decide) ?_
  refine x_istore_n (lv' := [(0, .ref (aS 0)), (1, .int (1 : Int32))]) C 95 188 rfl rfl (by decide) [1, 0] rfl ?_
  refine x_sub (lv' := [(0, .ref (aS 0)), (1, .int (1 : Int32))]) [0, 1] rfl (w_X10_init_189 hA0 C rt h)
set_option maxHeartbeats 4000000 in
set_option maxRecDepth 100000 in
theorem c_X10_init (l : Launch) (D : va_G) (k : ClassId × ClassId) (g : Nat → Nat) (a : Nat) (K : St → Prop) (h : wp_X10_init K) : ConV l yX10_init (Cond.code yX10_init cX10_init 2 none :: wsL_law) ({ frames := 1, cells := 21, slots := 635625, locals := 12 } : Room) D k g [.ref a] [(a, .inr (8, [.int 0, .null, .null, .int 0, .null, .null, .null, .int 0, .null, .int 0, .long 0, .null, .int 0, .int 0, .int 0, .null, .null, .int 0, .null, .null, .null, .int 0, .int 0, .null, .null, .null, .int 0, .null, .null, .null, .null, .int 0, .null, .null]))] (fun (u : (Nat → Nat) × St) => wdS k u.1 u.2 0) (fun u => u.1 0 = a ∧ K u.2) := by
  refine ConV.ofI (tb := tb_X10_init) (cc := cX10_init) (nL := 2) rfl (by decide) rfl tbk_X10_init (Nat.le_of_ble_eq_true rfl) ?_
  intro x hI hl hD hk hg C rt
  subst hl hD hk hg
  have h9 : Wx x 2 0 0 [(a, .inr (8, [.int 0, .null, .null, .int 0, .null, .null, .null, .int 0, .null, .int 0, .long 0, .null, .int 0, .int 0, .int 0, .null, .null, .int 0, .null, .null, .null, .int 0, .int 0, .null, .null, .null, .int 0, .null, .null, .null, .null, .int 0, .null, .null]))] [(0, .ref a)] 0 [] := by
    refine x_aload_n C 0 0 rfl 0 rfl rfl ?_
    refine x_objInit C 1 1 rfl (mc wq_5_2) (mc wq_1_11) (mc wq_1_12) ⟨by decide, Nat.le_of_ble_eq_true rfl⟩ ?_
    refine x_aload_n C 2 4 rfl 0 rfl rfl ?_
    refine x_sipush (v := (300 : Int32)) C 3 5 rfl (by decide) ?_
    refine x_newaI C 4 8 300 rfl (mc wq_2_22) (by decide) (by decide) (by decide) ⟨by decide, by decide⟩ (fun q1 => ?_)
    refine x_putF (ws' := [(a, .inr (8, [.int 0, .ref q1, .null, .int 0, .null, .null, .null, .int 0, .null, .int 0, .long 0, .null, .int 0, .int 0, .int 0, .null, .null, .int 0, .null, .null, .null, .int 0, .int 0, .null, .null, .null, .int 0, .null, .null, .null, .null, .int 0, .null, .null])), (q1, .inl ((xk x).1, 300, .inl (fun _ => 0)))]) C hI 5 10 rfl fi_X10 tyX10 tyX10_ok nmX10 0 rfl rfl 1 (by decide) (mc wq_5_3) rfl rfl rfl rfl (Nat.le_of_ble_eq_true rfl) rfl ?_
    refine x_aload_n C 6 13 rfl 0 rfl rfl ?_
    refine x_iconst (v := (4 : Int32)) C 7 14 rfl (by decide) ?_
    refine x_newaI C 8 15 4 rfl (mc wq_2_22) (by decide) (by decide) (by decide) ⟨by decide, by decide⟩ (fun q2 => ?_)
    refine x_putF (ws' := [(a, .inr (8, [.int 0, .ref q1, .ref q2, .int 0, .null, .null, .null, .int 0, .null, .int 0, .long 0, .null, .int 0, .int 0, .int 0, .null, .null, .int 0, .null, .null, .null, .int 0, .int 0, .null, .null, .null, .int 0, .null, .null, .null, .null, .int 0, .null, .null])), (q1, .inl ((xk x).1, 300, .inl (fun _ => 0))), (q2, .inl ((xk x).1, 4, .inl (fun _ => 0)))]) C hI 9 17 rfl fi_X10 tyX10 tyX10_ok nmX10 0 rfl rfl 2 (by decide) (mc wq_5_4) rfl rfl rfl rfl (Nat.le_of_ble_eq_true rfl) rfl ?_
    refine x_aload_n C 10 20 rfl 0 rfl rfl ?_
    refine x_bipush (v := (8 : Int32)) C 11 21 rfl (by decide) ?_
    refine x_newaI C 12 23 8 rfl (mc wq_2_22) (by decide) (by decide) (by decide) ⟨by decide, by decide⟩ (fun q3 => ?_)
    refine x_putF (ws' := [(a, .inr (8, [.int 0, .ref q1, .ref q2, .int 0, .ref q3, .null, .null, .int 0, .null, .int 0, .long 0, .null, .int 0, .int 0, .int 0, .null, .null, .int 0, .null, .null, .null, .int 0, .int 0, .null, .null, .null, .int 0, .null, .null, .null, .null, .int 0, .null, .null])), (q1, .inl ((xk x).1, 300, .inl (fun _ => 0))), (q2, .inl ((xk x).1, 4, .inl (fun _ => 0))), (q3, .inl ((xk x).1, 8, .inl (fun _ => 0)))]) C hI 13 25 rfl fi_X10 tyX10 tyX10_ok nmX10 0 rfl rfl 4 (by decide) (mc wq_5_5) rfl rfl rfl rfl (Nat.le_of_ble_eq_true rfl) rfl ?_
    refine x_aload_n C 14 28 rfl 0 rfl rfl ?_
    refine x_bipush (v := (8 : Int32)) C 15 29 rfl (by decide) ?_
    refine x_newaI C 16 31 8 rfl (mc wq_2_22) (by decide) (by decide) (by decide) ⟨by decide, by decide⟩ (fun q4 => ?_)
    refine x_putF (ws' := [(a, .inr (8, [.int 0, .ref q1, .ref q2, .int 0, .ref q3, .ref q4, .null, .int 0, .null, .int 0, .long 0, .null, .int 0, .int 0, .int 0, .null, .null, .int 0, .null, .null, .null, .int 0, .int 0, .null, .null, .null, .int 0, .null, .null, .null, .null, .int 0, .null, .null])), (q1, .inl ((xk x).1, 300, .inl (fun _ => 0))), (q2, .inl ((xk x).1, 4, .inl (fun _ => 0))), (q3, .inl ((xk x).1, 8, .inl (fun _ => 0))), (q4, .inl ((xk x).1, 8, .inl (fun _ => 0)))]) C hI 17 33 rfl fi_X10 tyX10 tyX10_ok nmX10 0 rfl rfl 5 (by decide) (mc wq_5_6) rfl rfl rfl rfl (Nat.le_of_ble_eq_true rfl) rfl ?_
    refine x_aload_n C 18 36 rfl 0 rfl rfl ?_
    refine x_bipush (v := (72 : Int32)) C 19 37 rfl (by decide) ?_
    refine x_newaI C 20 39 72 rfl (mc wq_2_22) (by decide) (by decide) (by decide) ⟨by decide, by decide⟩ (fun q5 => ?_)
    refine x_putF (ws' := [(a, .inr (8, [.int 0, .ref q1, .ref q2, .int 0, .ref q3, .ref q4, .ref q5, .int 0, .null, .int 0, .long 0, .null, .int 0, .int 0, .int 0, .null, .null, .int 0, .null, .null, .null, .int 0, .int 0, .null, .null, .null, .int 0, .null, .null, .null, .null, .int 0, .null, .null])), (q1, .inl ((xk x).1, 300, .inl (fun _ => 0))), (q2, .inl ((xk x).1, 4, .inl (fun _ => 0))), (q3, .inl ((xk x).1, 8, .inl (fun _ => 0))), (q4, .inl ((xk x).1, 8, .inl (fun _ => 0))), (q5, .inl ((xk x).1, 72, .inl (fun _ => 0)))]) C hI 21 41 rfl fi_X10 tyX10 tyX10_ok nmX10 0 rfl rfl 6 (by decide) (mc wq_5_7) rfl rfl rfl rfl (Nat.le_of_ble_eq_true rfl) rfl ?_
    refine x_aload_n C 22 44 rfl 0 rfl rfl ?_
    refine x_bipush (v := (12 : Int32)) C 23 45 rfl (by decide) ?_
    refine x_newaI C 24 47 12 rfl (mc wq_2_22) (by decide) (by decide) (by decide) ⟨by decide, by decide⟩ (fun q6 => ?_)
    refine x_putF (ws' := [(a, .inr (8, [.int 0, .ref q1, .ref q2, .int 0, .ref q3, .ref q4, .ref q5, .int 0, .ref q6, .int 0, .long 0, .null, .int 0, .int 0, .int 0, .null, .null, .int 0, .null, .null, .null, .int 0, .int 0, .null, .null, .null, .int 0, .null, .null, .null, .null, .int 0, .null, .null])), (q1, .inl ((xk x).1, 300, .inl (fun _ => 0))), (q2, .inl ((xk x).1, 4, .inl (fun _ => 0))), (q3, .inl ((xk x).1, 8, .inl (fun _ => 0))), (q4, .inl ((xk x).1, 8, .inl (fun _ => 0))), (q5, .inl ((xk x).1, 72, .inl (fun _ => 0))), (q6, .inl ((xk x).1, 12, .inl (fun _ => 0)))]) C hI 25 49 rfl fi_X10 tyX10 tyX10_ok nmX10 0 rfl rfl 8 (by decide) (mc wq_5_8) rfl rfl rfl rfl (Nat.le_of_ble_eq_true rfl) rfl ?_
    refine x_aload_n C 26 52 rfl 0 rfl rfl ?_
    refine x_iconst (v := (2 : Int32)) C 27 53 rfl (by decide) ?_
    refine x_put (ws' := [(a, .inr (8, [.int 0, .ref q1, .ref q2, .int 0, .ref q3, .ref q4, .ref q5, .int 0, .ref q6, .int (2 : Int32), .long 0, .null, .int 0, .int 0, .int 0, .null, .null, .int 0, .null, .null, .null, .int 0, .int 0, .null, .null, .null, .int 0, .null, .null, .null, .null, .int 0, .null, .null])), (q1, .inl ((xk x).1, 300, .inl (fun _ => 0))), (q2, .inl ((xk x).1, 4, .inl (fun _ => 0))), (q3, .inl ((xk x).1, 8, .inl (fun _ => 0))), (q4, .inl ((xk x).1, 8, .inl (fun _ => 0))), (q5, .inl ((xk x).1, 72, .inl (fun _ => 0))), (q6, .inl ((xk x).1, 12, .inl (fun _ => 0)))]) C 28 54 rfl fi_X10 tyX10 tyX10_ok nmX10 0 rfl rfl 9 (by decide) (mc wq_5_9) rfl rfl rfl (Nat.le_of_ble_eq_true rfl) rfl ?_
    refine x_aload_n C 29 57 rfl 0 rfl rfl ?_
    refine x_bipush (v := (10 : Int32)) C 30 58 rfl (by decide) ?_
    refine x_newaI C 31 60 10 rfl (mc wq_2_22) (by decide) (by decide) (by decide) ⟨by decide, by decide⟩ (fun q7 => ?_)
    refine x_putF (ws' := [(a, .inr (8, [.int 0, .ref q1, .ref q2, .int 0, .ref q3, .ref q4, .ref q5, .int 0, .ref q6, .int (2 : Int32), .long 0, .ref q7, .int 0, .int 0, .int 0, .null, .null, .int 0, .null, .null, .null, .int 0, .int 0, .null, .null, .null, .int 0, .null, .null, .null, .null, .int 0, .null, .null])), (q1, .inl ((xk x).1, 300, .inl (fun _ => 0))), (q2, .inl ((xk x).1, 4, .inl (fun _ => 0))), (q3, .inl ((xk x).1, 8, .inl (fun _ => 0))), (q4, .inl ((xk x).1, 8, .inl (fun _ => 0))), (q5, .inl ((xk x).1, 72, .inl (fun _ => 0))), (q6, .inl ((xk x).1, 12, .inl (fun _ => 0))), (q7, .inl ((xk x).1, 10, .inl (fun _ => 0)))]) C hI 32 62 rfl fi_X10 tyX10 tyX10_ok nmX10 0 rfl rfl 11 (by decide) (mc wq_5_10) rfl rfl rfl rfl (Nat.le_of_ble_eq_true rfl) rfl ?_
    refine x_aload_n C 33 65 rfl 0 rfl rfl ?_
    refine x_iconst (v := (4 : Int32)) C 34 66 rfl (by decide) ?_
    refine x_newaI C 35 67 4 rfl (mc wq_2_22) (by decide) (by decide) (by decide) ⟨by decide, by decide⟩ (fun q8 => ?_)
    refine x_putF (ws' := [(a, .inr (8, [.int 0, .ref q1, .ref q2, .int 0, .ref q3, .ref q4, .ref q5, .int 0, .ref q6, .int (2 : Int32), .long 0, .ref q7, .int 0, .int 0, .int 0, .ref q8, .null, .int 0, .null, .null, .null, .int 0, .int 0, .null, .null, .null, .int 0, .null, .null, .null, .null, .int 0, .null, .null])), (q1, .inl ((xk x).1, 300, .inl (fun _ => 0))), (q2, .inl ((xk x).1, 4, .inl (fun _ => 0))), (q3, .inl ((xk x).1, 8, .inl (fun _ => 0))), (q4, .inl ((xk x).1, 8, .inl (fun _ => 0))), (q5, .inl ((xk x).1, 72, .inl (fun _ => 0))), (q6, .inl ((xk x).1, 12, .inl (fun _ => 0))), (q7, .inl ((xk x).1, 10, .inl (fun _ => 0))), (q8, .inl ((xk x).1, 4, .inl (fun _ => 0)))]) C hI 36 69 rfl fi_X10 tyX10 tyX10_ok nmX10 0 rfl rfl 15 (by decide) (mc wq_5_11) rfl rfl rfl rfl (Nat.le_of_ble_eq_true rfl) rfl ?_
    refine x_aload_n C 37 72 rfl 0 rfl rfl ?_
    refine x_iconst (v := (4 : Int32)) C 38 73 rfl (by decide) ?_
    refine x_newaZ C 39 74 4 rfl (mc wq_5_12) (by decide) (by decide) (by decide) ⟨by decide, by decide⟩ (fun q9 => ?_)
    refine x_putF (ws' := [(a, .inr (8, [.int 0, .ref q1, .ref q2, .int 0, .ref q3, .ref q4, .ref q5, .int 0, .ref q6, .int (2 : Int32), .long 0, .ref q7, .int 0, .int 0, .int 0, .ref q8, .ref q9, .int 0, .null, .null, .null, .int 0, .int 0, .null, .null, .null, .int 0, .null, .null, .null, .null, .int 0, .null, .null])), (q1, .inl ((xk x).1, 300, .inl (fun _ => 0))), (q2, .inl ((xk x).1, 4, .inl (fun _ => 0))), (q3, .inl ((xk x).1, 8, .inl (fun _ => 0))), (q4, .inl ((xk x).1, 8, .inl (fun _ => 0))), (q5, .inl ((xk x).1, 72, .inl (fun _ => 0))), (q6, .inl ((xk x).1, 12, .inl (fun _ => 0))), (q7, .inl ((xk x).1, 10, .inl (fun _ => 0))), (q8, .inl ((xk x).1, 4, .inl (fun _ => 0))), (q9, .inl ((xk x).2, 4, .inl (fun _ => 0)))]) C hI 40 76 rfl fi_X10 tyX10 tyX10_ok nmX10 0 rfl rfl 16 (by decide) (mc wq_5_13) rfl rfl rfl rfl (Nat.le_of_ble_eq_true rfl) rfl ?_
    refine x_aload_n C 41 79 rfl 0 rfl rfl ?_
    refine x_bipush (v := (8 : Int32)) C 42 80 rfl (by decide) ?_
    refine x_newaI C 43 82 8 rfl (mc wq_2_22) (by decide) (by decide) (by decide) ⟨by decide, by decide⟩ (fun q10 => ?_)
    refine x_putF (ws' := [(a, .inr (8, [.int 0, .ref q1, .ref q2, .int 0, .ref q3, .ref q4, .ref q5, .int 0, .ref q6, .int (2 : Int32), .long 0, .ref q7, .int 0, .int 0, .int 0, .ref q8, .ref q9, .int 0, .ref q10, .null, .null, .int 0, .int 0, .null, .null, .null, .int 0, .null, .null, .null, .null, .int 0, .null, .null])), (q1, .inl ((xk x).1, 300, .inl (fun _ => 0))), (q2, .inl ((xk x).1, 4, .inl (fun _ => 0))), (q3, .inl ((xk x).1, 8, .inl (fun _ => 0))), (q4, .inl ((xk x).1, 8, .inl (fun _ => 0))), (q5, .inl ((xk x).1, 72, .inl (fun _ => 0))), (q6, .inl ((xk x).1, 12, .inl (fun _ => 0))), (q7, .inl ((xk x).1, 10, .inl (fun _ => 0))), (q8, .inl ((xk x).1, 4, .inl (fun _ => 0))), (q9, .inl ((xk x).2, 4, .inl (fun _ => 0))), (q10, .inl ((xk x).1, 8, .inl (fun _ => 0)))]) C hI 44 84 rfl fi_X10 tyX10 tyX10_ok nmX10 0 rfl rfl 18 (by decide) (mc wq_5_14) rfl rfl rfl rfl (Nat.le_of_ble_eq_true rfl) rfl ?_
    refine x_aload_n C 45 87 rfl 0 rfl rfl ?_
    refine x_bipush (v := (8 : Int32)) C 46 88 rfl (by decide) ?_
    refine x_newaI C 47 90 8 rfl (mc wq_2_22) (by decide) (by decide) (by decide) ⟨by decide, by decide⟩ (fun q11 => ?_)
    refine x_putF (ws' := [(a, .inr (8, [.int 0, .ref q1, .ref q2, .int 0, .ref q3, .ref q4, .ref q5, .int 0, .ref q6, .int (2 : Int32), .long 0, .ref q7, .int 0, .int 0, .int 0, .ref q8, .ref q9, .int 0, .ref q10, .ref q11, .null, .int 0, .int 0, .null, .null, .null, .int 0, .null, .null, .null, .null, .int 0, .null, .null])), (q1, .inl ((xk x).1, 300, .inl (fun _ => 0))), (q2, .inl ((xk x).1, 4, .inl (fun _ => 0))), (q3, .inl ((xk x).1, 8, .inl (fun _ => 0))), (q4, .inl ((xk x).1, 8, .inl (fun _ => 0))), (q5, .inl ((xk x).1, 72, .inl (fun _ => 0))), (q6, .inl ((xk x).1, 12, .inl (fun _ => 0))), (q7, .inl ((xk x).1, 10, .inl (fun _ => 0))), (q8, .inl ((xk x).1, 4, .inl (fun _ => 0))), (q9, .inl ((xk x).2, 4, .inl (fun _ => 0))), (q10, .inl ((xk x).1, 8, .inl (fun _ => 0))), (q11, .inl ((xk x).1, 8, .inl (fun _ => 0)))]) C hI 48 92 rfl fi_X10 tyX10 tyX10_ok nmX10 0 rfl rfl 19 (by decide) (mc wq_5_15) rfl rfl rfl rfl (Nat.le_of_ble_eq_true rfl) rfl ?_
    refine x_aload_n C 49 95 rfl 0 rfl rfl ?_
    refine x_bipush (v := (72 : Int32)) C 50 96 rfl (by decide) ?_
    refine x_newaI C 51 98 72 rfl (mc wq_2_22) (by decide) (by decide) (by decide) ⟨by decide, by decide⟩ (fun q12 => ?_)
    refine x_putF (ws' := [(a, .inr (8, [.int 0, .ref q1, .ref q2, .int 0, .ref q3, .ref q4, .ref q5, .int 0, .ref q6, .int (2 : Int32), .long 0, .ref q7, .int 0, .int 0, .int 0, .ref q8, .ref q9, .int 0, .ref q10, .ref q11, .ref q12, .int 0, .int 0, .null, .null, .null, .int 0, .null, .null, .null, .null, .int 0, .null, .null])), (q1, .inl ((xk x).1, 300, .inl (fun _ => 0))), (q2, .inl ((xk x).1, 4, .inl (fun _ => 0))), (q3, .inl ((xk x).1, 8, .inl (fun _ => 0))), (q4, .inl ((xk x).1, 8, .inl (fun _ => 0))), (q5, .inl ((xk x).1, 72, .inl (fun _ => 0))), (q6, .inl ((xk x).1, 12, .inl (fun _ => 0))), (q7, .inl ((xk x).1, 10, .inl (fun _ => 0))), (q8, .inl ((xk x).1, 4, .inl (fun _ => 0))), (q9, .inl ((xk x).2, 4, .inl (fun _ => 0))), (q10, .inl ((xk x).1, 8, .inl (fun _ => 0))), (q11, .inl ((xk x).1, 8, .inl (fun _ => 0))), (q12, .inl ((xk x).1, 72, .inl (fun _ => 0)))]) C hI 52 100 rfl fi_X10 tyX10 tyX10_ok nmX10 0 rfl rfl 20 (by decide) (mc wq_5_16) rfl rfl rfl rfl (Nat.le_of_ble_eq_true rfl) rfl ?_
    refine x_aload_n C 53 103 rfl 0 rfl rfl ?_
    refine x_sipush (v := (1000 : Int32)) C 54 104 rfl (by decide) ?_
    refine x_newaI C 55 107 1000 rfl (mc wq_2_22) (by decide) (by decide) (by decide) ⟨by decide, by decide⟩ (fun q13 => ?_)
    refine x_putF (ws' := [(a, .inr (8, [.int 0, .ref q1, .ref q2, .int 0, .ref q3, .ref q4, .ref q5, .int 0, .ref q6, .int (2 : Int32), .long 0, .ref q7, .int 0, .int 0, .int 0, .ref q8, .ref q9, .int 0, .ref q10, .ref q11, .ref q12, .int 0, .int 0, .ref q13, .null, .null, .int 0, .null, .null, .null, .null, .int 0, .null, .null])), (q1, .inl ((xk x).1, 300, .inl (fun _ => 0))), (q2, .inl ((xk x).1, 4, .inl (fun _ => 0))), (q3, .inl ((xk x).1, 8, .inl (fun _ => 0))), (q4, .inl ((xk x).1, 8, .inl (fun _ => 0))), (q5, .inl ((xk x).1, 72, .inl (fun _ => 0))), (q6, .inl ((xk x).1, 12, .inl (fun _ => 0))), (q7, .inl ((xk x).1, 10, .inl (fun _ => 0))), (q8, .inl ((xk x).1, 4, .inl (fun _ => 0))), (q9, .inl ((xk x).2, 4, .inl (fun _ => 0))), (q10, .inl ((xk x).1, 8, .inl (fun _ => 0))), (q11, .inl ((xk x).1, 8, .inl (fun _ => 0))), (q12, .inl ((xk x).1, 72, .inl (fun _ => 0))), (q13, .inl ((xk x).1, 1000, .inl (fun _ => 0)))]) C hI 56 109 rfl fi_X10 tyX10 tyX10_ok nmX10 0 rfl rfl 23 (by decide) (mc wq_5_17) rfl rfl rfl rfl (Nat.le_of_ble_eq_true rfl) rfl ?_
    refine x_aload_n C 57 112 rfl 0 rfl rfl ?_
    refine x_sipush (v := (1000 : Int32)) C 58 113 rfl (by decide) ?_
    refine x_newaI C 59 116 1000 rfl (mc wq_2_22) (by decide) (by decide) (by decide) ⟨by decide, by decide⟩ (fun q14 => ?_)
    refine x_putF (ws' := [(a, .inr (8, [.int 0, .ref q1, .ref q2, .int 0, .ref q3, .ref q4, .ref q5, .int 0, .ref q6, .int (2 : Int32), .long 0, .ref q7, .int 0, .int 0, .int 0, .ref q8, .ref q9, .int 0, .ref q10, .ref q11, .ref q12, .int 0, .int 0, .ref q13, .ref q14, .null, .int 0, .null, .null, .null, .null, .int 0, .null, .null])), (q1, .inl ((xk x).1, 300, .inl (fun _ => 0))), (q2, .inl ((xk x).1, 4, .inl (fun _ => 0))), (q3, .inl ((xk x).1, 8, .inl (fun _ => 0))), (q4, .inl ((xk x).1, 8, .inl (fun _ => 0))), (q5, .inl ((xk x).1, 72, .inl (fun _ => 0))), (q6, .inl ((xk x).1, 12, .inl (fun _ => 0))), (q7, .inl ((xk x).1, 10, .inl (fun _ => 0))), (q8, .inl ((xk x).1, 4, .inl (fun _ => 0))), (q9, .inl ((xk x).2, 4, .inl (fun _ => 0))), (q10, .inl ((xk x).1, 8, .inl (fun _ => 0))), (q11, .inl ((xk x).1, 8, .inl (fun _ => 0))), (q12, .inl ((xk x).1, 72, .inl (fun _ => 0))), (q13, .inl ((xk x).1, 1000, .inl (fun _ => 0))), (q14, .inl ((xk x).1, 1000, .inl (fun _ => 0)))]) C hI 60 118 rfl fi_X10 tyX10 tyX10_ok nmX10 0 rfl rfl 24 (by decide) (mc wq_5_18) rfl rfl rfl rfl (Nat.le_of_ble_eq_true rfl) rfl ?_
    refine x_aload_n C 61 121 rfl 0 rfl rfl ?_
    refine x_sipush (v := (1000 : Int32)) C 62 122 rfl (by decide) ?_
    refine x_newaI C 63 125 1000 rfl (mc wq_2_22) (by decide) (by decide) (by decide) ⟨by decide, by decide⟩ (fun q15 => ?_)
    refine x_putF (ws' := [(a, .inr (8, [.int 0, .ref q1, .ref q2, .int 0, .ref q3, .ref q4, .ref q5, .int 0, .ref q6, .int (2 : Int32), .long 0, .ref q7, .int 0, .int 0, .int 0, .ref q8, .ref q9, .int 0, .ref q10, .ref q11, .ref q12, .int 0, .int 0, .ref q13, .ref q14, .ref q15, .int 0, .null, .null, .null, .null, .int 0, .null, .null])), (q1, .inl ((xk x).1, 300, .inl (fun _ => 0))), (q2, .inl ((xk x).1, 4, .inl (fun _ => 0))), (q3, .inl ((xk x).1, 8, .inl (fun _ => 0))), (q4, .inl ((xk x).1, 8, .inl (fun _ => 0))), (q5, .inl ((xk x).1, 72, .inl (fun _ => 0))), (q6, .inl ((xk x).1, 12, .inl (fun _ => 0))), (q7, .inl ((xk x).1, 10, .inl (fun _ => 0))), (q8, .inl ((xk x).1, 4, .inl (fun _ => 0))), (q9, .inl ((xk x).2, 4, .inl (fun _ => 0))), (q10, .inl ((xk x).1, 8, .inl (fun _ => 0))), (q11, .inl ((xk x).1, 8, .inl (fun _ => 0))), (q12, .inl ((xk x).1, 72, .inl (fun _ => 0))), (q13, .inl ((xk x).1, 1000, .inl (fun _ => 0))), (q14, .inl ((xk x).1, 1000, .inl (fun _ => 0))), (q15, .inl ((xk x).1, 1000, .inl (fun _ => 0)))]) C hI 64 127 rfl fi_X10 tyX10 tyX10_ok nmX10 0 rfl rfl 25 (by decide) (mc wq_5_19) rfl rfl rfl rfl (Nat.le_of_ble_eq_true rfl) rfl ?_
    refine x_aload_n C 65 130 rfl 0 rfl rfl ?_
    refine x_ldc (v := (314928 : Int32)) C 66 131 rfl (mc wq_5_20) ?_
    refine x_newaI C 67 133 314928 rfl (mc wq_2_22) (by decide) (by decide) (by decide) ⟨by decide, by decide⟩ (fun q16 => ?_)
    refine x_putF (ws' := [(a, .inr (8, [.int 0, .ref q1, .ref q2, .int 0, .ref q3, .ref q4, .ref q5, .int 0, .ref q6, .int (2 : Int32), .long 0, .ref q7, .int 0, .int 0, .int 0, .ref q8, .ref q9, .int 0, .ref q10, .ref q11, .ref q12, .int 0, .int 0, .ref q13, .ref q14, .ref q15, .int 0, .ref q16, .null, .null, .null, .int 0, .null, .null])), (q1, .inl ((xk x).1, 300, .inl (fun _ => 0))), (q2, .inl ((xk x).1, 4, .inl (fun _ => 0))), (q3, .inl ((xk x).1, 8, .inl (fun _ => 0))), (q4, .inl ((xk x).1, 8, .inl (fun _ => 0))), (q5, .inl ((xk x).1, 72, .inl (fun _ => 0))), (q6, .inl ((xk x).1, 12, .inl (fun _ => 0))), (q7, .inl ((xk x).1, 10, .inl (fun _ => 0))), (q8, .inl ((xk x).1, 4, .inl (fun _ => 0))), (q9, .inl ((xk x).2, 4, .inl (fun _ => 0))), (q10, .inl ((xk x).1, 8, .inl (fun _ => 0))), (q11, .inl ((xk x).1, 8, .inl (fun _ => 0))), (q12, .inl ((xk x).1, 72, .inl (fun _ => 0))), (q13, .inl ((xk x).1, 1000, .inl (fun _ => 0))), (q14, .inl ((xk x).1, 1000, .inl (fun _ => 0))), (q15, .inl ((xk x).1, 1000, .inl (fun _ => 0))), (q16, .inl ((xk x).1, 314928, .inl (fun _ => 0)))]) C hI 68 135 rfl fi_X10 tyX10 tyX10_ok nmX10 0 rfl rfl 27 (by decide) (mc wq_5_21) rfl rfl rfl rfl (Nat.le_of_ble_eq_true rfl) rfl ?_
    refine x_aload_n C 69 138 rfl 0 rfl rfl ?_
    refine x_ldc (v := (314928 : Int32)) C 70 139 rfl (mc wq_5_20) ?_
    refine x_newaI C 71 141 314928 rfl (mc wq_2_22) (by decide) (by decide) (by decide) ⟨by decide, by decide⟩ (fun q17 => ?_)
    refine x_putF (ws' := [(a, .inr (8, [.int 0, .ref q1, .ref q2, .int 0, .ref q3, .ref q4, .ref q5, .int 0, .ref q6, .int (2 : Int32), .long 0, .ref q7, .int 0, .int 0, .int 0, .ref q8, .ref q9, .int 0, .ref q10, .ref q11, .ref q12, .int 0, .int 0, .ref q13, .ref q14, .ref q15, .int 0, .ref q16, .ref q17, .null, .null, .int 0, .null, .null])), (q1, .inl ((xk x).1, 300, .inl (fun _ => 0))), (q2, .inl ((xk x).1, 4, .inl (fun _ => 0))), (q3, .inl ((xk x).1, 8, .inl (fun _ => 0))), (q4, .inl ((xk x).1, 8, .inl (fun _ => 0))), (q5, .inl ((xk x).1, 72, .inl (fun _ => 0))), (q6, .inl ((xk x).1, 12, .inl (fun _ => 0))), (q7, .inl ((xk x).1, 10, .inl (fun _ => 0))), (q8, .inl ((xk x).1, 4, .inl (fun _ => 0))), (q9, .inl ((xk x).2, 4, .inl (fun _ => 0))), (q10, .inl ((xk x).1, 8, .inl (fun _ => 0))), (q11, .inl ((xk x).1, 8, .inl (fun _ => 0))), (q12, .inl ((xk x).1, 72, .inl (fun _ => 0))), (q13, .inl ((xk x).1, 1000, .inl (fun _ => 0))), (q14, .inl ((xk x).1, 1000, .inl (fun _ => 0))), (q15, .inl ((xk x).1, 1000, .inl (fun _ => 0))), (q16, .inl ((xk x).1, 314928, .inl (fun _ => 0))), (q17, .inl ((xk x).1, 314928, .inl (fun _ => 0)))]) C hI 72 143 rfl fi_X10 tyX10 tyX10_ok nmX10 0 rfl rfl 28 (by decide) (mc wq_5_22) rfl rfl rfl rfl (Nat.le_of_ble_eq_true rfl) rfl ?_
    refine x_aload_n C 73 146 rfl 0 rfl rfl ?_
    refine x_sipush (v := (1000 : Int32)) C 74 147 rfl (by decide) ?_
    refine x_newaI C 75 150 1000 rfl (mc wq_2_22) (by decide) (by decide) (by decide) ⟨by decide, by decide⟩ (fun q18 => ?_)
    refine x_putF (ws' := [(a, .inr (8, [.int 0, .ref q1, .ref q2, .int 0, .ref q3, .ref q4, .ref q5, .int 0, .ref q6, .int (2 : Int32), .long 0, .ref q7, .int 0, .int 0, .int 0, .ref q8, .ref q9, .int 0, .ref q10, .ref q11, .ref q12, .int 0, .int 0, .ref q13, .ref q14, .ref q15, .int 0, .ref q16, .ref q17, .ref q18, .null, .int 0, .null, .null])), (q1, .inl ((xk x).1, 300, .inl (fun _ => 0))), (q2, .inl ((xk x).1, 4, .inl (fun _ => 0))), (q3, .inl ((xk x).1, 8, .inl (fun _ => 0))), (q4, .inl ((xk x).1, 8, .inl (fun _ => 0))), (q5, .inl ((xk x).1, 72, .inl (fun _ => 0))), (q6, .inl ((xk x).1, 12, .inl (fun _ => 0))), (q7, .inl ((xk x).1, 10, .inl (fun _ => 0))), (q8, .inl ((xk x).1, 4, .inl (fun _ => 0))), (q9, .inl ((xk x).2, 4, .inl (fun _ => 0))), (q10, .inl ((xk x).1, 8, .inl (fun _ => 0))), (q11, .inl ((xk x).1, 8, .inl (fun _ => 0))), (q12, .inl ((xk x).1, 72, .inl (fun _ => 0))), (q13, .inl ((xk x).1, 1000, .inl (fun _ => 0))), (q14, .inl ((xk x).1, 1000, .inl (fun _ => 0))), (q15, .inl ((xk x).1, 1000, .inl (fun _ => 0))), (q16, .inl ((xk x).1, 314928, .inl (fun _ => 0))), (q17, .inl ((xk x).1, 314928, .inl (fun _ => 0))), (q18, .inl ((xk x).1, 1000, .inl (fun _ => 0)))]) C hI 76 152 rfl fi_X10 tyX10 tyX10_ok nmX10 0 rfl rfl 29 (by decide) (mc wq_5_23) rfl rfl rfl rfl (Nat.le_of_ble_eq_true rfl) rfl ?_
    refine x_aload_n C 77 155 rfl 0 rfl rfl ?_
    refine x_sipush (v := (1000 : Int32)) C 78 156 rfl (by decide) ?_
    refine x_newaI C 79 159 1000 rfl (mc wq_2_22) (by decide) (by decide) (by decide) ⟨by decide, by decide⟩ (fun q19 => ?_)
    refine x_putF (ws' := [(a, .inr (8, [.int 0, .ref q1, .ref q2, .int 0, .ref q3, .ref q4, .ref q5, .int 0, .ref q6, .int (2 : Int32), .long 0, .ref q7, .int 0, .int 0, .int 0, .ref q8, .ref q9, .int 0, .ref q10, .ref q11, .ref q12, .int 0, .int 0, .ref q13, .ref q14, .ref q15, .int 0, .ref q16, .ref q17, .ref q18, .ref q19, .int 0, .null, .null])), (q1, .inl ((xk x).1, 300, .inl (fun _ => 0))), (q2, .inl ((xk x).1, 4, .inl (fun _ => 0))), (q3, .inl ((xk x).1, 8, .inl (fun _ => 0))), (q4, .inl ((xk x).1, 8, .inl (fun _ => 0))), (q5, .inl ((xk x).1, 72, .inl (fun _ => 0))), (q6, .inl ((xk x).1, 12, .inl (fun _ => 0))), (q7, .inl ((xk x).1, 10, .inl (fun _ => 0))), (q8, .inl ((xk x).1, 4, .inl (fun _ => 0))), (q9, .inl ((xk x).2, 4, .inl (fun _ => 0))), (q10, .inl ((xk x).1, 8, .inl (fun _ => 0))), (q11, .inl ((xk x).1, 8, .inl (fun _ => 0))), (q12, .inl ((xk x).1, 72, .inl (fun _ => 0))), (q13, .inl ((xk x).1, 1000, .inl (fun _ => 0))), (q14, .inl ((xk x).1, 1000, .inl (fun _ => 0))), (q15, .inl ((xk x).1, 1000, .inl (fun _ => 0))), (q16, .inl ((xk x).1, 314928, .inl (fun _ => 0))), (q17, .inl ((xk x).1, 314928, .inl (fun _ => 0))), (q18, .inl ((xk x).1, 1000, .inl (fun _ => 0))), (q19, .inl ((xk x).1, 1000, .inl (fun _ => 0)))]) C hI 80 161 rfl fi_X10 tyX10 tyX10_ok nmX10 0 rfl rfl 30 (by decide) (mc wq_6_0) rfl rfl rfl rfl (Nat.le_of_ble_eq_true rfl) rfl ?_
    refine x_aload_n C 81 164 rfl 0 rfl rfl ?_
    refine x_iconst (v := (3 : Int32)) C 82 165 rfl (by decide) ?_
    refine x_newaI C 83 166 3 rfl (mc wq_2_22) (by decide) (by decide) (by decide) ⟨by decide, by decide⟩ (fun q20 => ?_)
    refine x_putF (ws' := [(a, .inr (8, [.int 0, .ref q1, .ref q2, .int 0, .ref q3, .ref q4, .ref q5, .int 0, .ref q6, .int (2 : Int32), .long 0, .ref q7, .int 0, .int 0, .int 0, .ref q8, .ref q9, .int 0, .ref q10, .ref q11, .ref q12, .int 0, .int 0, .ref q13, .ref q14, .ref q15, .int 0, .ref q16, .ref q17, .ref q18, .ref q19, .int 0, .ref q20, .null])), (q1, .inl ((xk x).1, 300, .inl (fun _ => 0))), (q2, .inl ((xk x).1, 4, .inl (fun _ => 0))), (q3, .inl ((xk x).1, 8, .inl (fun _ => 0))), (q4, .inl ((xk x).1, 8, .inl (fun _ => 0))), (q5, .inl ((xk x).1, 72, .inl (fun _ => 0))), (q6, .inl ((xk x).1, 12, .inl (fun _ => 0))), (q7, .inl ((xk x).1, 10, .inl (fun _ => 0))), (q8, .inl ((xk x).1, 4, .inl (fun _ => 0))), (q9, .inl ((xk x).2, 4, .inl (fun _ => 0))), (q10, .inl ((xk x).1, 8, .inl (fun _ => 0))), (q11, .inl ((xk x).1, 8, .inl (fun _ => 0))), (q12, .inl ((xk x).1, 72, .inl (fun _ => 0))), (q13, .inl ((xk x).1, 1000, .inl (fun _ => 0))), (q14, .inl ((xk x).1, 1000, .inl (fun _ => 0))), (q15, .inl ((xk x).1, 1000, .inl (fun _ => 0))), (q16, .inl ((xk x).1, 314928, .inl (fun _ => 0))), (q17, .inl ((xk x).1, 314928, .inl (fun _ => 0))), (q18, .inl ((xk x).1, 1000, .inl (fun _ => 0))), (q19, .inl ((xk x).1, 1000, .inl (fun _ => 0))), (q20, .inl ((xk x).1, 3, .inl (fun _ => 0)))]) C hI 84 168 rfl fi_X10 tyX10 tyX10_ok nmX10 0 rfl rfl 32 (by decide) (mc wq_6_1) rfl rfl rfl rfl (Nat.le_of_ble_eq_true rfl) rfl ?_
    refine x_aload_n C 85 171 rfl 0 rfl rfl ?_
    refine x_sipush (v := (256 : Int32)) C 86 172 rfl (by decide) ?_
    refine x_newaI C 87 175 256 rfl (mc wq_2_22) (by decide) (by decide) (by decide) ⟨by decide, by decide⟩ (fun q21 => ?_)
    refine x_putF (ws' := [(a, .inr (8, [.int 0, .ref q1, .ref q2, .int 0, .ref q3, .ref q4, .ref q5, .int 0, .ref q6, .int (2 : Int32), .long 0, .ref q7, .int 0, .int 0, .int 0, .ref q8, .ref q9, .int 0, .ref q10, .ref q11, .ref q12, .int 0, .int 0, .ref q13, .ref q14, .ref q15, .int 0, .ref q16, .ref q17, .ref q18, .ref q19, .int 0, .ref q20, .ref q21])), (q1, .inl ((xk x).1, 300, .inl (fun _ => 0))), (q2, .inl ((xk x).1, 4, .inl (fun _ => 0))), (q3, .inl ((xk x).1, 8, .inl (fun _ => 0))), (q4, .inl ((xk x).1, 8, .inl (fun _ => 0))), (q5, .inl ((xk x).1, 72, .inl (fun _ => 0))), (q6, .inl ((xk x).1, 12, .inl (fun _ => 0))), (q7, .inl ((xk x).1, 10, .inl (fun _ => 0))), (q8, .inl ((xk x).1, 4, .inl (fun _ => 0))), (q9, .inl ((xk x).2, 4, .inl (fun _ => 0))), (q10, .inl ((xk x).1, 8, .inl (fun _ => 0))), (q11, .inl ((xk x).1, 8, .inl (fun _ => 0))), (q12, .inl ((xk x).1, 72, .inl (fun _ => 0))), (q13, .inl ((xk x).1, 1000, .inl (fun _ => 0))), (q14, .inl ((xk x).1, 1000, .inl (fun _ => 0))), (q15, .inl ((xk x).1, 1000, .inl (fun _ => 0))), (q16, .inl ((xk x).1, 314928, .inl (fun _ => 0))), (q17, .inl ((xk x).1, 314928, .inl (fun _ => 0))), (q18, .inl ((xk x).1, 1000, .inl (fun _ => 0))), (q19, .inl ((xk x).1, 1000, .inl (fun _ => 0))), (q20, .inl ((xk x).1, 3, .inl (fun _ => 0))), (q21, .inl ((xk x).1, 256, .inl (fun _ => 0)))]) C hI 88 177 rfl fi_X10 tyX10 tyX10_ok nmX10 0 rfl rfl 33 (by decide) (mc wq_6_2) rfl rfl rfl rfl (Nat.le_of_ble_eq_true rfl) rfl ?_
    exact w_X10_init_180 (aS := (fun i => [a, q1, q2, q3, q4, q5, q6, q7, q8, q9, q10, q11, q12, q13, q14, q15, q16, q17, q18, q19, q20, q21].getD i 0)) (sS := sS1) rfl C rt (h sS1 rfl)
  exact h9
