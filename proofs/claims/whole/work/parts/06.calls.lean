def SBY (q : Nat) : List Int32 := ([[97, 99, 116], [99, 97, 108, 108]] : List (List Int32)).getD q []
def SLENn (q : Nat) : Nat := ([3, 4] : List Nat).getD q 0
def SLEN (q : Nat) : Int32 := Int32.ofNat (SLENn q)
def SCH (q j : Nat) : Int32 := (SBY q).getD j 0
abbrev fl (Ls : List va_W) : va_W := Ls.flatten
def uf (s : St) (k n : Nat) (v : Int32) : St := up s k (fun j => if j < n then v else s k j)
def uc (s : St) (k : Nat) (f : Nat → Int32) (sp dp n : Int32) : St := up s k (va_cpy f (s k) sp.toNatClampNeg dp.toNatClampNeg n.toNatClampNeg)
theorem perm_idx {α : Type} {Ls Ls' : List α} (is : List Nat) (h1 : is.Perm (List.range Ls.length)) (h2 : is.map (fun i => Ls[i]?) = Ls'.map some) : Ls.Perm Ls' := by
  have e1 : (List.range Ls.length).map (fun i => Ls[i]?) = Ls.map some := by
    apply List.ext_getElem?
    intro i
    by_cases hi : i < Ls.length
    · simp [hi]
    · simp [hi]
  have h3 : (is.map (fun i => Ls[i]?)).Perm ((List.range Ls.length).map (fun i => Ls[i]?)) := h1.map _
  rw [h2, e1] at h3
  have h4 := h3.filterMap id
  simpa using h4.symm
theorem vaP_iff {D : va_G} {cl : List vw_C} {ws : va_W} {H : Heap} : va_P D cl ws H ↔ ∀ q ∈ ws, va_at D cl q H := by
  constructor
  · intro h q hq
    obtain ⟨k, hk⟩ := List.getElem?_of_mem hq
    exact h k q hk
  · intro h k q hk
    exact h q (List.mem_of_getElem? hk)
theorem vaD_iff {A : Nat → Prop} {ws : va_W} : va_D A ws ↔ ws.Pairwise (fun p q => p.1 ≠ q.1) ∧ ∀ q ∈ ws, A q.1 := by
  constructor
  · intro h
    refine ⟨List.pairwise_iff_getElem.mpr (fun i j hi hj hij e => ?_), fun q hq => ?_⟩
    · have := h.1 i j _ _ (List.getElem?_eq_getElem hi) (List.getElem?_eq_getElem hj) e
      omega
    · obtain ⟨k, hk⟩ := List.getElem?_of_mem hq
      exact h.2 k q hk
  · intro h
    have hp := List.pairwise_iff_getElem.mp h.1
    refine ⟨fun i j p q hi hj e => ?_, fun k q hk => h.2 q (List.mem_of_getElem? hk)⟩
    obtain ⟨hi1, hi2⟩ := List.getElem?_eq_some_iff.mp hi
    obtain ⟨hj1, hj2⟩ := List.getElem?_eq_some_iff.mp hj
    rcases Nat.lt_trichotomy i j with h1 | h1 | h1
    · exact absurd (by rw [hi2, hj2]; exact e) (hp i j hi1 hj1 h1)
    · exact h1
    · exact absurd (by rw [hi2, hj2]; exact e.symm) (hp j i hj1 hi1 h1)
theorem vaP_perm {D : va_G} {cl : List vw_C} {ws ws' : va_W} {H : Heap} (hp : ws.Perm ws') (h : va_P D cl ws H) : va_P D cl ws' H := vaP_iff.mpr (fun q hq => vaP_iff.mp h q (hp.mem_iff.mpr hq))
theorem vaD_perm {A : Nat → Prop} {ws ws' : va_W} (hp : ws.Perm ws') (h : va_D A ws) : va_D A ws' := by
  have h2 := vaD_iff.mp h
  exact vaD_iff.mpr ⟨(hp.pairwise_iff (fun hne => fun e => hne e.symm)).mp h2.1, fun q hq => h2.2 q (hp.mem_iff.mpr hq)⟩
theorem join2 {A0 : Nat → Prop} {D : va_G} {cl : List vw_C} {wc wr w1 : va_W} {H H1 : Heap} (hP : va_P D cl (wr ++ wc) H) (hD : va_D A0 (wr ++ wc)) (hk : ∀ q : Nat, q < H.size → ¬ va_A wc H.size q → H1[q]? = H[q]?) (hF : ∀ q, va_A wc H.size q → A0 q) (hP1 : va_P D cl w1 H1) (hD1 : va_D (va_A wc H.size) w1) : va_P D cl (wr ++ w1) H1 ∧ va_D A0 (wr ++ w1) := by
  have hP' := vaP_iff.mp hP
  have hD' := vaD_iff.mp hD
  have hpw := List.pairwise_append.mp hD'.1
  have hP1' := vaP_iff.mp hP1
  have hD1' := vaD_iff.mp hD1
  have apart : ∀ q ∈ wr, q.1 < H.size ∧ ¬ va_A wc H.size q.1 := by
    intro q hq
    have hl := (hP' q (List.mem_append_left _ hq)).lt
    refine ⟨hl, fun h => ?_⟩
    rcases h with ⟨k2, e, h⟩ | h
    · exact hpw.2.2 q hq (q.1, e) (List.mem_of_getElem? h) rfl
    · omega
  refine ⟨vaP_iff.mpr (fun q hq => ?_), vaD_iff.mpr ⟨List.pairwise_append.mpr ⟨hpw.1, hD1'.1, fun a ha b hb e => ?_⟩, fun q hq => ?_⟩⟩
  · rcases List.mem_append.mp hq with h | h
    · obtain ⟨g1, g2⟩ := apart q h
      exact (hP' q (List.mem_append_left _ h)).kept (hk q.1 g1 g2)
    · exact hP1' q h
  · exact (apart a ha).2 (by rw [e]; exact hD1'.2 b hb)
  · rcases List.mem_append.mp hq with h | h
    · exact hD'.2 q (List.mem_append_left _ h)
    · exact hF _ (hD1'.2 q h)
theorem free2 {A : Nat → Prop} {ws wc : va_W} {H0 H : Heap} {locs : List Loc} (hD : va_D A ws) (hS : va_S A H0 H locs) (hA : ∀ q, H0.size ≤ q → A q) (hc : ∀ q ∈ wc, q ∈ ws) : ∀ q, va_A wc H.size q → A q := by
  intro q h
  rcases h with ⟨k, e, h⟩ | h
  · exact (vaD_iff.mp hD).2 (q, e) (hc _ (List.mem_of_getElem? h))
  · exact hA q (Nat.le_trans hS.1 h)
theorem x_callGVI {x : CT} {cc : ByteArray} {tb : Tb} {nL : Nat} {own : String} {WW : List Cond} {c0 : Cond} {rm : Room} {ce sl : Nat} {Ls Lc : List va_W} {lv : List (Nat × Value)} {st : List Value} {y : MethodName} {bytes : ByteArray} {maxL index : Nat} {rmc : Room} {b : Nat} {As : List Value} {S : Type} {Lu : S → List va_W} {post : Int32 → S → Prop} (C : Cx x cc tb nL own (c0 :: WW) rm) (i pc : Nat) (hM : ConI (xl x) y (Cond.code y bytes maxL (some .int) :: WW) rmc (xD x) (xk x) (xg x) (.ref b :: As) (fl Lc) (fun u => fl (Lu u)) post) (hi : tb[i]? = some (pc, .invokevirtual index, 3)) (hg : WW.all goodWord = true) (hh : ∀ w ∈ [Cond.methodLink own index y, .instanceMethod y, .selects y.cls y y, .initialized y.cls], w ∈ WW) (hcode : Cond.code y bytes maxL (some .int) ∈ WW) (n : Nat) (hd : calleeOk WW y n) (hn : As.length = n) (hrm : rmc.frames + 1 ≤ rm.frames ∧ 8 + (maxL + 11) + rmc.locals ≤ rm.locals) (hst : (st.map fun v => v.category).sum ≤ 8) (hcs : ce ≤ rm.cells ∧ sl ≤ rm.slots) (hz : rmc.cells = 0 ∧ rmc.slots = 0) {ci q0 : Nat} {q : vw_C} {fs : List Value} (hci : vwCl[ci]? = some (y.cls, q.2)) (he : (fl Lc)[q0]? = some (b, .inr (ci, fs))) (Lr : List va_W) (Ls2 : S → List va_W) (is is2 : List Nat) (hp : is.Perm (List.range Ls.length)) (hL : is.map (fun i => Ls[i]?) = (Lr ++ Lc).map some) (N : Nat) (hN : ∀ u, (Lr ++ Lu u).length = N) (hp2 : is2.Perm (List.range N)) (hL2 : ∀ u, is2.map (fun i => (Lr ++ Lu u)[i]?) = (Ls2 u).map some)
    (h : ∀ (r : Int32) (u : S), post r u → Wx x nL ce sl (fl (Ls2 u)) lv (pc + 3) (.int r :: st)) : Wx x nL ce sl (fl Ls) lv pc (As.reverse ++ .ref b :: st) := by
  obtain ⟨p, l, e, R, s, m, args, below, meth, c, Q, A, D, k, g⟩ := x
  obtain ⟨⟨hx, hb, hml, hown, hts⟩, htb, hR, hA, hK, hlk, hE⟩ := C
  intro H locs ls hP hD hS hl
  subst hR
  have hpm : (fl Ls).Perm (fl Lr ++ fl Lc) := by
    have h3 := (perm_idx is hp hL).flatten
    rwa [List.flatten_append] at h3
  have hPj := vaP_perm hpm hP
  have hDj := vaD_perm hpm hD
  have hPc : va_P D vwCl (fl Lc) H := vaP_iff.mpr (fun q hq => vaP_iff.mp hPj q (List.mem_append_right _ hq))
  have hDc : va_D A (fl Lc) := vaD_iff.mpr ⟨(List.pairwise_append.mp (vaD_iff.mp hDj).1).2.1, fun q hq => (vaD_iff.mp hDj).2 q (List.mem_append_right _ hq)⟩
  have hKc := hK
  have hFc : ∀ q, va_A (fl Lc) H.size q → A q := free2 hDj hS hA (fun q hq => List.mem_append_right _ hq)
  have hEc : EXT g (va_A (fl Lc) H.size) s H := (hE.kept (fun a h1 h2 => hS.2.1 a h1 h2)).narrow hFc
  refine va_calli (va_runV (As := As) (rest := st) ⟨hx, hb, hml, hown, hts⟩ (hM H.size) (cwV n hts (good_ww hg hh hcode) rfl rfl rfl ⟨rfl, hd⟩ hrm) ⟨fun a U gf mk q => by obtain ⟨z0, z1, zP, zK, zD, zE⟩ := q; exact ⟨z0, z1, zP, va_K.moved (u := U) (U := U.calling gf mk a) (Vm.Alike.refl U.vm) zK, zD, zE.calling⟩, va_recv hKc hPc (ci := ci) (q0 := q0) hci he, fun U hU hW => ⟨rfl, by rw [hU], by rw [hU]; exact hPc, va_K.moved hW.alike hKc, hDc.weaken (fun _ _ _ _ => trivial), by rw [hU]; exact hEc.warm hW⟩⟩ rfl hn hl.1 rfl (lv_room hst) (tb_at htb hi) (by rw [hz.1, hz.2]; exact hcs)) hS (fun q _ h => hFc q h) hFc (fun r u t H1 locs1 ht hvm hw hB hz1 hk1 hS1 => ?_)
  obtain ⟨hP1, hD1⟩ := hB
  rw [ht] at hP1
  obtain ⟨hP2, hD2⟩ := join2 hPj hDj hk1 hFc hP1 hD1
  have hpm2 : (fl Lr ++ fl (Lu u)).Perm (fl (Ls2 u)) := by
    have h3 := (perm_idx is2 (by rw [hN]; exact hp2) (hL2 u)).flatten
    rwa [List.flatten_append] at h3
  rw [hz.1, hz.2]
  exact h r u hw H1 locs1 ls (vaP_perm hpm2 hP2) (vaD_perm hpm2 hD2) hS1 hl

theorem x_callGVZ {x : CT} {cc : ByteArray} {tb : Tb} {nL : Nat} {own : String} {WW : List Cond} {c0 : Cond} {rm : Room} {ce sl : Nat} {Ls Lc : List va_W} {lv : List (Nat × Value)} {st : List Value} {y : MethodName} {bytes : ByteArray} {maxL index : Nat} {rmc : Room} {b : Nat} {As : List Value} {S : Type} {Lu : S → List va_W} {post : Int32 → S → Prop} (C : Cx x cc tb nL own (c0 :: WW) rm) (i pc : Nat) (hM : ConZ (xl x) y (Cond.code y bytes maxL (some .boolean) :: WW) rmc (xD x) (xk x) (xg x) (.ref b :: As) (fl Lc) (fun u => fl (Lu u)) post) (hi : tb[i]? = some (pc, .invokevirtual index, 3)) (hg : WW.all goodWord = true) (hh : ∀ w ∈ [Cond.methodLink own index y, .instanceMethod y, .selects y.cls y y, .initialized y.cls], w ∈ WW) (hcode : Cond.code y bytes maxL (some .boolean) ∈ WW) (n : Nat) (hd : calleeOk WW y n) (hn : As.length = n) (hrm : rmc.frames + 1 ≤ rm.frames ∧ 8 + (maxL + 11) + rmc.locals ≤ rm.locals) (hst : (st.map fun v => v.category).sum ≤ 8) (hcs : ce ≤ rm.cells ∧ sl ≤ rm.slots) (hz : rmc.cells = 0 ∧ rmc.slots = 0) {ci q0 : Nat} {q : vw_C} {fs : List Value} (hci : vwCl[ci]? = some (y.cls, q.2)) (he : (fl Lc)[q0]? = some (b, .inr (ci, fs))) (Lr : List va_W) (Ls2 : S → List va_W) (is is2 : List Nat) (hp : is.Perm (List.range Ls.length)) (hL : is.map (fun i => Ls[i]?) = (Lr ++ Lc).map some) (N : Nat) (hN : ∀ u, (Lr ++ Lu u).length = N) (hp2 : is2.Perm (List.range N)) (hL2 : ∀ u, is2.map (fun i => (Lr ++ Lu u)[i]?) = (Ls2 u).map some)
    (h : ∀ (r : Int32) (u : S), post r u → Wx x nL ce sl (fl (Ls2 u)) lv (pc + 3) (.int r :: st)) : Wx x nL ce sl (fl Ls) lv pc (As.reverse ++ .ref b :: st) := by
  obtain ⟨p, l, e, R, s, m, args, below, meth, c, Q, A, D, k, g⟩ := x
  obtain ⟨⟨hx, hb, hml, hown, hts⟩, htb, hR, hA, hK, hlk, hE⟩ := C
  intro H locs ls hP hD hS hl
  subst hR
  have hpm : (fl Ls).Perm (fl Lr ++ fl Lc) := by
    have h3 := (perm_idx is hp hL).flatten
    rwa [List.flatten_append] at h3
  have hPj := vaP_perm hpm hP
  have hDj := vaD_perm hpm hD
  have hPc : va_P D vwCl (fl Lc) H := vaP_iff.mpr (fun q hq => vaP_iff.mp hPj q (List.mem_append_right _ hq))
  have hDc : va_D A (fl Lc) := vaD_iff.mpr ⟨(List.pairwise_append.mp (vaD_iff.mp hDj).1).2.1, fun q hq => (vaD_iff.mp hDj).2 q (List.mem_append_right _ hq)⟩
  have hKc := hK
  have hFc : ∀ q, va_A (fl Lc) H.size q → A q := free2 hDj hS hA (fun q hq => List.mem_append_right _ hq)
  have hEc : EXT g (va_A (fl Lc) H.size) s H := (hE.kept (fun a h1 h2 => hS.2.1 a h1 h2)).narrow hFc
  refine va_calli (va_runV (As := As) (rest := st) ⟨hx, hb, hml, hown, hts⟩ (hM H.size) (cwV n hts (good_ww hg hh hcode) rfl rfl rfl ⟨rfl, hd⟩ hrm) ⟨fun a U gf mk q => by obtain ⟨z0, z1, zP, zK, zD, zE⟩ := q; exact ⟨z0, z1, zP, va_K.moved (u := U) (U := U.calling gf mk a) (Vm.Alike.refl U.vm) zK, zD, zE.calling⟩, va_recv hKc hPc (ci := ci) (q0 := q0) hci he, fun U hU hW => ⟨rfl, by rw [hU], by rw [hU]; exact hPc, va_K.moved hW.alike hKc, hDc.weaken (fun _ _ _ _ => trivial), by rw [hU]; exact hEc.warm hW⟩⟩ rfl hn hl.1 rfl (lv_room hst) (tb_at htb hi) (by rw [hz.1, hz.2]; exact hcs)) hS (fun q _ h => hFc q h) hFc (fun r u t H1 locs1 ht hvm hw hB hz1 hk1 hS1 => ?_)
  obtain ⟨hP1, hD1⟩ := hB
  rw [ht] at hP1
  obtain ⟨hP2, hD2⟩ := join2 hPj hDj hk1 hFc hP1 hD1
  have hpm2 : (fl Lr ++ fl (Lu u)).Perm (fl (Ls2 u)) := by
    have h3 := (perm_idx is2 (by rw [hN]; exact hp2) (hL2 u)).flatten
    rwa [List.flatten_append] at h3
  rw [hz.1, hz.2]
  exact h r u hw H1 locs1 ls (vaP_perm hpm2 hP2) (vaD_perm hpm2 hD2) hS1 hl

theorem x_callGVL {x : CT} {cc : ByteArray} {tb : Tb} {nL : Nat} {own : String} {WW : List Cond} {c0 : Cond} {rm : Room} {ce sl : Nat} {Ls Lc : List va_W} {lv : List (Nat × Value)} {st : List Value} {y : MethodName} {bytes : ByteArray} {maxL index : Nat} {rmc : Room} {b : Nat} {As : List Value} {S : Type} {Lu : S → List va_W} {post : Int64 → S → Prop} (C : Cx x cc tb nL own (c0 :: WW) rm) (i pc : Nat) (hM : ConL (xl x) y (Cond.code y bytes maxL (some .long) :: WW) rmc (xD x) (xk x) (xg x) (.ref b :: As) (fl Lc) (fun u => fl (Lu u)) post) (hi : tb[i]? = some (pc, .invokevirtual index, 3)) (hg : WW.all goodWord = true) (hh : ∀ w ∈ [Cond.methodLink own index y, .instanceMethod y, .selects y.cls y y, .initialized y.cls], w ∈ WW) (hcode : Cond.code y bytes maxL (some .long) ∈ WW) (n : Nat) (hd : calleeOk WW y n) (hn : As.length = n) (hrm : rmc.frames + 1 ≤ rm.frames ∧ 8 + (maxL + 11) + rmc.locals ≤ rm.locals) (hst : (st.map fun v => v.category).sum ≤ 8) (hcs : ce ≤ rm.cells ∧ sl ≤ rm.slots) (hz : rmc.cells = 0 ∧ rmc.slots = 0) {ci q0 : Nat} {q : vw_C} {fs : List Value} (hci : vwCl[ci]? = some (y.cls, q.2)) (he : (fl Lc)[q0]? = some (b, .inr (ci, fs))) (Lr : List va_W) (Ls2 : S → List va_W) (is is2 : List Nat) (hp : is.Perm (List.range Ls.length)) (hL : is.map (fun i => Ls[i]?) = (Lr ++ Lc).map some) (N : Nat) (hN : ∀ u, (Lr ++ Lu u).length = N) (hp2 : is2.Perm (List.range N)) (hL2 : ∀ u, is2.map (fun i => (Lr ++ Lu u)[i]?) = (Ls2 u).map some)
    (h : ∀ (r : Int64) (u : S), post r u → Wx x nL ce sl (fl (Ls2 u)) lv (pc + 3) (.long r :: st)) : Wx x nL ce sl (fl Ls) lv pc (As.reverse ++ .ref b :: st) := by
  obtain ⟨p, l, e, R, s, m, args, below, meth, c, Q, A, D, k, g⟩ := x
  obtain ⟨⟨hx, hb, hml, hown, hts⟩, htb, hR, hA, hK, hlk, hE⟩ := C
  intro H locs ls hP hD hS hl
  subst hR
  have hpm : (fl Ls).Perm (fl Lr ++ fl Lc) := by
    have h3 := (perm_idx is hp hL).flatten
    rwa [List.flatten_append] at h3
  have hPj := vaP_perm hpm hP
  have hDj := vaD_perm hpm hD
  have hPc : va_P D vwCl (fl Lc) H := vaP_iff.mpr (fun q hq => vaP_iff.mp hPj q (List.mem_append_right _ hq))
  have hDc : va_D A (fl Lc) := vaD_iff.mpr ⟨(List.pairwise_append.mp (vaD_iff.mp hDj).1).2.1, fun q hq => (vaD_iff.mp hDj).2 q (List.mem_append_right _ hq)⟩
  have hKc := hK
  have hFc : ∀ q, va_A (fl Lc) H.size q → A q := free2 hDj hS hA (fun q hq => List.mem_append_right _ hq)
  have hEc : EXT g (va_A (fl Lc) H.size) s H := (hE.kept (fun a h1 h2 => hS.2.1 a h1 h2)).narrow hFc
  refine va_calll (va_runV (As := As) (rest := st) ⟨hx, hb, hml, hown, hts⟩ (hM H.size) (cwV n hts (good_ww hg hh hcode) rfl rfl rfl ⟨rfl, hd⟩ hrm) ⟨fun a U gf mk q => by obtain ⟨z0, z1, zP, zK, zD, zE⟩ := q; exact ⟨z0, z1, zP, va_K.moved (u := U) (U := U.calling gf mk a) (Vm.Alike.refl U.vm) zK, zD, zE.calling⟩, va_recv hKc hPc (ci := ci) (q0 := q0) hci he, fun U hU hW => ⟨rfl, by rw [hU], by rw [hU]; exact hPc, va_K.moved hW.alike hKc, hDc.weaken (fun _ _ _ _ => trivial), by rw [hU]; exact hEc.warm hW⟩⟩ rfl hn hl.1 rfl (lv_room hst) (tb_at htb hi) (by rw [hz.1, hz.2]; exact hcs)) hS (fun q _ h => hFc q h) hFc (fun r u t H1 locs1 ht hvm hw hB hz1 hk1 hS1 => ?_)
  obtain ⟨hP1, hD1⟩ := hB
  rw [ht] at hP1
  obtain ⟨hP2, hD2⟩ := join2 hPj hDj hk1 hFc hP1 hD1
  have hpm2 : (fl Lr ++ fl (Lu u)).Perm (fl (Ls2 u)) := by
    have h3 := (perm_idx is2 (by rw [hN]; exact hp2) (hL2 u)).flatten
    rwa [List.flatten_append] at h3
  rw [hz.1, hz.2]
  exact h r u hw H1 locs1 ls (vaP_perm hpm2 hP2) (vaD_perm hpm2 hD2) hS1 hl

theorem x_callGVV {x : CT} {cc : ByteArray} {tb : Tb} {nL : Nat} {own : String} {WW : List Cond} {c0 : Cond} {rm : Room} {ce sl : Nat} {Ls Lc : List va_W} {lv : List (Nat × Value)} {st : List Value} {y : MethodName} {bytes : ByteArray} {maxL index : Nat} {rmc : Room} {b : Nat} {As : List Value} {S : Type} {Lu : S → List va_W} {post : S → Prop} (C : Cx x cc tb nL own (c0 :: WW) rm) (i pc : Nat) (hM : ConV (xl x) y (Cond.code y bytes maxL (none) :: WW) rmc (xD x) (xk x) (xg x) (.ref b :: As) (fl Lc) (fun u => fl (Lu u)) post) (hi : tb[i]? = some (pc, .invokevirtual index, 3)) (hg : WW.all goodWord = true) (hh : ∀ w ∈ [Cond.methodLink own index y, .instanceMethod y, .selects y.cls y y, .initialized y.cls], w ∈ WW) (hcode : Cond.code y bytes maxL (none) ∈ WW) (n : Nat) (hd : calleeOk WW y n) (hn : As.length = n) (hrm : rmc.frames + 1 ≤ rm.frames ∧ 8 + (maxL + 11) + rmc.locals ≤ rm.locals) (hst : (st.map fun v => v.category).sum ≤ 8) (hcs : ce ≤ rm.cells ∧ sl ≤ rm.slots) (hz : rmc.cells = 0 ∧ rmc.slots = 0) {ci q0 : Nat} {q : vw_C} {fs : List Value} (hci : vwCl[ci]? = some (y.cls, q.2)) (he : (fl Lc)[q0]? = some (b, .inr (ci, fs))) (Lr : List va_W) (Ls2 : S → List va_W) (is is2 : List Nat) (hp : is.Perm (List.range Ls.length)) (hL : is.map (fun i => Ls[i]?) = (Lr ++ Lc).map some) (N : Nat) (hN : ∀ u, (Lr ++ Lu u).length = N) (hp2 : is2.Perm (List.range N)) (hL2 : ∀ u, is2.map (fun i => (Lr ++ Lu u)[i]?) = (Ls2 u).map some)
    (h : ∀ (u : S), post u → Wx x nL ce sl (fl (Ls2 u)) lv (pc + 3) (st)) : Wx x nL ce sl (fl Ls) lv pc (As.reverse ++ .ref b :: st) := by
  obtain ⟨p, l, e, R, s, m, args, below, meth, c, Q, A, D, k, g⟩ := x
  obtain ⟨⟨hx, hb, hml, hown, hts⟩, htb, hR, hA, hK, hlk, hE⟩ := C
  intro H locs ls hP hD hS hl
  subst hR
  have hpm : (fl Ls).Perm (fl Lr ++ fl Lc) := by
    have h3 := (perm_idx is hp hL).flatten
    rwa [List.flatten_append] at h3
  have hPj := vaP_perm hpm hP
  have hDj := vaD_perm hpm hD
  have hPc : va_P D vwCl (fl Lc) H := vaP_iff.mpr (fun q hq => vaP_iff.mp hPj q (List.mem_append_right _ hq))
  have hDc : va_D A (fl Lc) := vaD_iff.mpr ⟨(List.pairwise_append.mp (vaD_iff.mp hDj).1).2.1, fun q hq => (vaD_iff.mp hDj).2 q (List.mem_append_right _ hq)⟩
  have hKc := hK
  have hFc : ∀ q, va_A (fl Lc) H.size q → A q := free2 hDj hS hA (fun q hq => List.mem_append_right _ hq)
  have hEc : EXT g (va_A (fl Lc) H.size) s H := (hE.kept (fun a h1 h2 => hS.2.1 a h1 h2)).narrow hFc
  refine va_callv (va_runV (As := As) (rest := st) ⟨hx, hb, hml, hown, hts⟩ (hM H.size) (cwV n hts (good_ww hg hh hcode) rfl rfl rfl ⟨rfl, hd⟩ hrm) ⟨fun a U gf mk q => by obtain ⟨z0, z1, zP, zK, zD, zE⟩ := q; exact ⟨z0, z1, zP, va_K.moved (u := U) (U := U.calling gf mk a) (Vm.Alike.refl U.vm) zK, zD, zE.calling⟩, va_recv hKc hPc (ci := ci) (q0 := q0) hci he, fun U hU hW => ⟨rfl, by rw [hU], by rw [hU]; exact hPc, va_K.moved hW.alike hKc, hDc.weaken (fun _ _ _ _ => trivial), by rw [hU]; exact hEc.warm hW⟩⟩ rfl hn hl.1 rfl (lv_room hst) (tb_at htb hi) (by rw [hz.1, hz.2]; exact hcs)) hS (fun q _ h => hFc q h) hFc (fun u t H1 locs1 ht hvm hw hB hz1 hk1 hS1 => ?_)
  obtain ⟨hP1, hD1⟩ := hB
  rw [ht] at hP1
  obtain ⟨hP2, hD2⟩ := join2 hPj hDj hk1 hFc hP1 hD1
  have hpm2 : (fl Lr ++ fl (Lu u)).Perm (fl (Ls2 u)) := by
    have h3 := (perm_idx is2 (by rw [hN]; exact hp2) (hL2 u)).flatten
    rwa [List.flatten_append] at h3
  rw [hz.1, hz.2]
  exact h u hw H1 locs1 ls (vaP_perm hpm2 hP2) (vaD_perm hpm2 hD2) hS1 hl

theorem x_lookIn {x : CT} {cc : ByteArray} {tb : Tb} {nL : Nat} {own : String} {Ts : List Cond} {rm : Room} {ce sl : Nat} {ws : va_W} {lv : List (Nat × Value)} {st : List Value} (C : Cx x cc tb nL own Ts rm) (i pc tgt : Nat) {dflt : Int} {ps : Array (Int × Int)} {len : Nat} {a : Int32} {off : Int} (hi : tb[i]? = some (pc, .lookupswitch dflt ps, len)) (hp : (ps.toList.zip (ps.toList.drop 1)).all (fun (a, next) => a.1 < next.1) = true) (ho : Op.lookupswitch.offset ps.toList dflt a.toInt = off) (ht : (pc : Int) + off = (tgt : Int)) (h : Wx x nL ce sl ws lv tgt st) : Wx x nL ce sl ws lv pc (.int a :: st) := by
  obtain ⟨p, l, e, R, s, m, args, below, meth, c, Q, A, D, k, g⟩ := x
  obtain ⟨⟨hx, hb, hml, hown, hts⟩, htb, hR, hA, hK, hlk, hE⟩ := C
  intro H locs ls hP hD hS hl
  exact lv_lookup hx hb (tb_at htb hi) hp ho ht (h H locs ls hP hD hS hl)
