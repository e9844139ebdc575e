set_option maxRecDepth 20000 in
theorem nw_0 : Cond.methodLinkNest RX9 9 yX7_init "ShrinkingCalls" ∈ lw_tbl := by decide +kernel
set_option maxRecDepth 20000 in
theorem nw_1 : Cond.methodLinkNest RX9 18 yX1_init "ShrinkingCalls" ∈ lw_tbl := by decide +kernel
set_option maxRecDepth 20000 in
theorem nw_2 : Cond.methodLinkNest RX9 28 yX5_init "ShrinkingCalls" ∈ lw_tbl := by decide +kernel
set_option maxRecDepth 20000 in
theorem nw_3 : Cond.methodLinkNest RX9 42 yX4_init "ShrinkingCalls" ∈ lw_tbl := by decide +kernel
set_option maxRecDepth 20000 in
theorem nw_4 : Cond.methodLinkNest RX9 49 yX6_init "ShrinkingCalls" ∈ lw_tbl := by decide +kernel
set_option maxRecDepth 20000 in
theorem nw_5 : Cond.methodLinkNest RX9 56 yX8_init "ShrinkingCalls" ∈ lw_tbl := by decide +kernel
set_option maxRecDepth 20000 in
theorem ls_or : Cond.laysStatic "ShrinkingCalls" "ORDERS" "[I" ∈ lw_tbl := by decide +kernel
set_option maxRecDepth 20000 in
theorem ls_ga : Cond.laysStatic "ShrinkingCalls$Closure" "GAPS" "[I" ∈ lw_tbl := by decide +kernel
set_option maxRecDepth 20000 in
theorem ls_co : Cond.laysStatic "java/lang/String" "COMPACT_STRINGS" "Z" ∈ lw_tbl := by decide +kernel
set_option maxRecDepth 20000 in
theorem ls_si : Cond.laysStatic "jdk/internal/util/Preconditions" "SIOOBE_FORMATTER" "Ljava/util/function/BiFunction;" ∈ lw_tbl := by decide +kernel
set_option maxRecDepth 20000 in
theorem in_or : Cond.initialized "ShrinkingCalls" ∈ lw_tbl := by decide +kernel
set_option maxRecDepth 20000 in
theorem in_ga : Cond.initialized "ShrinkingCalls$Closure" ∈ lw_tbl := by decide +kernel
set_option maxRecDepth 20000 in
theorem in_co : Cond.initialized "java/lang/String" ∈ lw_tbl := by decide +kernel
set_option maxRecDepth 20000 in
theorem in_si : Cond.initialized "jdk/internal/util/Preconditions" ∈ lw_tbl := by decide +kernel
set_option maxRecDepth 20000 in
theorem sr_0 : Cond.stringRef "ShrinkingCalls$TextReader" 112 "act" ∈ lw_tbl := by decide +kernel
set_option maxRecDepth 20000 in
theorem sr_1 : Cond.stringRef "ShrinkingCalls$TextReader" 118 "call" ∈ lw_tbl := by decide +kernel
def tmS (i : Nat) : Term := Term.string "ShrinkingCalls$TextReader" (if i = 0 then 112 else 118)
theorem vkS_congr {N : Nat} {len : List Nat} {byt : List (List Int32)} {adK adV aK' aV' : Nat → Nat} {A : Nat → Prop} {U : State} {H : Heap} (h : vk_S N len byt adK adV A U H) (hk : ∀ i, i < N → aK' i = adK i) (hv : ∀ i, i < N → aV' i = adV i) : vk_S N len byt aK' aV' A U H := by
  refine ⟨fun i hi => ?_, fun i j hi hj e => h.2 i j hi hj (by rw [← hk i hi, ← hk j hj]; exact e)⟩
  rw [hk i hi, hv i hi]
  exact h.1 i hi
set_option maxHeartbeats 4000000 in
set_option maxRecDepth 100000 in
theorem ext_start {s : State} {b : Nat} (hts : ∀ w ∈ lw_tbl, w.before #[Value.ref b] s = true) (hgv : (Jvm.Cond.and given_1 narrow_1).before #[Value.ref b] s = true) : ∃ g : Nat → Nat, EXT g (fun q => s.heap.size ≤ q) s s.heap := by
  have hA : ∀ a : Nat, a < s.heap.size → ¬ (fun q => s.heap.size ≤ q) a := fun a h h2 => by
    have h3 : s.heap.size ≤ a := h2
    omega
  have hs := flat_of_before _ hgv
  obtain ⟨t0, v0, T0⟩ := va_Tof (tm := .static "ShrinkingCalls" "ORDERS" "[I") (ty := .int) (N := 16) (f := fun j => .int (ORD j)) (A := fun q => s.heap.size ≤ q) (by decide) (hs _ (by decide +kernel)) (va_eqt (hs _ (by decide +kernel))) (fun j hj => va_eqt (hs (Cond.eq (.elem (.static "ShrinkingCalls" "ORDERS" "[I") (.int (Int32.ofNat j))) (.int (ORD j))) (by revert j; decide +kernel))) hA
  obtain ⟨t1, v1, T1⟩ := va_Tof (tm := .static "ShrinkingCalls$Closure" "GAPS" "[I") (ty := .int) (N := 8) (f := fun j => .int (GAP j)) (A := fun q => s.heap.size ≤ q) (by decide) (hs _ (by decide +kernel)) (va_eqt (hs _ (by decide +kernel))) (fun j hj => va_eqt (hs (Cond.eq (.elem (.static "ShrinkingCalls$Closure" "GAPS" "[I") (.int (Int32.ofNat j))) (.int (GAP j))) (by revert j; decide +kernel))) hA
  obtain ⟨adK, adV, hS, hk⟩ := vk_Sof (args := #[Value.ref b]) (s := s) (N := 2) (tm := tmS) (len := [3, 4]) (byt := [[97, 99, 116], [99, 97, 108, 108]]) (A := fun q => s.heap.size ≤ q) (by decide) (fun i hi => hs _ (by revert i; decide +kernel)) (fun i hi => hs _ (by revert i; decide +kernel)) (fun i hi => hs _ (by revert i; decide +kernel)) (fun i hi => hs _ (by revert i; decide +kernel)) (fun i hi j hj => hs _ (by revert j; revert i; decide +kernel)) (fun i j hi hj hne => by
    match i, j, hi, hj, hne with
    | 0, 1, _, _, _ => exact Or.inl (hs _ (by decide +kernel))
    | 1, 0, _, _, _ => exact Or.inr (hs _ (by decide +kernel))
    | 0, 0, _, _, h => exact absurd rfl h
    | 1, 1, _, _, h => exact absurd rfl h
    | i + 2, j, h, _, _ => exact absurd h (by omega)
    | 0, j + 2, _, h, _ => exact absurd h (by omega)
    | 1, j + 2, _, h, _ => exact absurd h (by omega)) hA
  refine ⟨fun n => if n = 0 then t0 else if n = 1 then t1 else if n < 4 then adK (n - 2) else adV (n - 4), ⟨va_Zof (hts _ ls_or) (hts _ in_or) v0 hA, T0⟩, ⟨va_Zof (hts _ ls_ga) (hts _ in_ga) v1 hA, T1⟩, ⟨va_Zof (hts _ ls_co) (hts _ in_co) (va_eqi (hs _ (by decide +kernel))) hA, vkS_congr hS (fun i hi => ?_) (fun i hi => ?_)⟩, ⟨vk_R.of (hts _ sr_0) (hk 0 (by decide)), vk_R.of (hts _ sr_1) (hk 1 (by decide))⟩, va_Zqof (hts _ ls_si) (hts _ in_si) (hs _ (by decide +kernel)) hA, ?_⟩
  · match i, hi with
    | 0, _ => rfl
    | 1, _ => rfl
    | i + 2, h => exact absurd h (by omega)
  · match i, hi with
    | 0, _ => rfl
    | 1, _ => rfl
    | i + 2, h => exact absurd h (by omega)
  · exact ⟨va_Nw.of rfl (hts _ nw_0), va_Nw.of rfl (hts _ nw_1), va_Nw.of rfl (hts _ nw_2), va_Nw.of rfl (hts _ nw_3), va_Nw.of rfl (hts _ nw_4), va_Nw.of rfl (hts _ nw_5)⟩
set_option maxHeartbeats 4000000 in
theorem k_start {s : State} {b : Nat} (hts : ∀ w ∈ lw_tbl, w.before #[Value.ref b] s = true) : ∃ (D : va_G) (k : ClassId × ClassId), va_K D vwCl (tyL k) s := by
  obtain ⟨c0, iS0, hKn0⟩ := u_known (C := RX1) (T := TX1) (N := 5) (n := 5) hts li_wsX10 (hts _ (li_all _ wq_1_18))
  obtain ⟨c1, iS1, hKn1⟩ := u_known (C := RX2) (T := TX2) (N := 12) (n := 12) hts li_wsX20 (hts _ (li_all _ wq_2_3))
  obtain ⟨c2, iS2, hKn2⟩ := u_known (C := RX4) (T := TX4) (N := 8) (n := 8) hts li_wsX40 (hts _ (li_all _ wq_2_7))
  obtain ⟨c3, iS3, hKn3⟩ := u_known (C := RX5) (T := TX5) (N := 2) (n := 2) hts li_wsX50 (hts _ (li_all _ wq_1_23))
  obtain ⟨c4, iS4, hKn4⟩ := u_known (C := RX6) (T := TX6) (N := 6) (n := 6) hts li_wsX60 (hts _ (li_all _ wq_2_11))
  obtain ⟨c5, iS5, hKn5⟩ := u_known (C := RX7) (T := TX7) (N := 8) (n := 8) hts li_wsX70 (hts _ (li_all _ wq_1_14))
  obtain ⟨c6, iS6, hKn6⟩ := u_known (C := RX8) (T := TX8) (N := 1) (n := 1) hts li_wsX80 (hts _ (li_all _ wq_2_15))
  obtain ⟨c7, iS7, hKn7⟩ := u_known (C := RX9) (T := TX9) (N := 9) (n := 9) hts li_wsX90 (hts _ (li_all _ wq_1_1))
  obtain ⟨c8, iS8, hKn8⟩ := u_known (C := RX10) (T := TX10) (N := 34) (n := 34) hts li_wsX100 (hts _ (li_all _ wq_1_4))
  obtain ⟨dC, dI, hKc⟩ : ∃ (dC : Nat → ClassId) (dI : Nat → Nat → Nat), ∀ (k : Nat) (q : vw_C), vwCl[k]? = some q → u_Kn s q.1 q.2.1 q.2.2 (dC k) (dI k) := by
    refine ⟨fun k => if k = 0 then c0 else if k = 1 then c1 else if k = 2 then c2 else if k = 3 then c3 else if k = 4 then c4 else if k = 5 then c5 else if k = 6 then c6 else if k = 7 then c7 else c8, fun k => if k = 0 then iS0 else if k = 1 then iS1 else if k = 2 then iS2 else if k = 3 then iS3 else if k = 4 then iS4 else if k = 5 then iS5 else if k = 6 then iS6 else if k = 7 then iS7 else iS8, ?_⟩
    intro k q hq
    match k, hq with
    | 0, hq => cases hq; exact hKn0
    | 1, hq => cases hq; exact hKn1
    | 2, hq => cases hq; exact hKn2
    | 3, hq => cases hq; exact hKn3
    | 4, hq => cases hq; exact hKn4
    | 5, hq => cases hq; exact hKn5
    | 6, hq => cases hq; exact hKn6
    | 7, hq => cases hq; exact hKn7
    | 8, hq => cases hq; exact hKn8
    | k + 9, hq => simp [vwCl] at hq
  obtain ⟨cA, kA, comp, h1, h2, h3⟩ := Cond.arrayClass_spec (hts _ (li_all _ wq_2_22))
  obtain ⟨cB, kB, comp2, g1, g2, g3⟩ := Cond.arrayClass_spec (hts _ (li_all _ wq_5_12))
  refine ⟨(dC, dI), (cA, cB), hKc, fun k q hq => ?_⟩
  match k, hq with
  | 0, hq => cases hq; exact ⟨fun n z => ⟨fun k h => (by cases h), kA, h2, comp, h3⟩, h1⟩
  | 1, hq => cases hq; exact ⟨fun n z => ⟨fun k h => (by cases h), kB, g2, comp2, g3⟩, g1⟩
  | k + 2, hq => simp [tyL] at hq
set_option maxHeartbeats 4000000 in
set_option maxRecDepth 100000 in
theorem whole_open (hpure : ∀ (xs : Nat → Int32) (L : Nat), L ≤ 2560 → wp_X10_init (fun sS => Lp (F_L_law_18 xs L (fun v => v = 1)) ((0 : Int32), s0, s0, s0, s0, s0, sK0, sM0, sK0, sV0, (0 : Int64), sS, (0 : Int64)))) {p : Program} {e : Env} {s : State} {m : MethodId} {below : List Frame} {meth : Method} {c : Code} (l : Launch) {b L : Nat} {xs : Nat → Int32} (hL : L ≤ 2560) (C0 : lw_At p s m meth c b L xs) : W p l e room_1 s m #[Value.ref b] below meth c s.heap [] 0 0 (lw_Z below #[Value.ref b] s) (entryFrame m ([Value.ref b] : List Value).toArray 4) := by
  obtain ⟨hx, hb, hr, hml, hown, hts, hX, hbl, hlocks, hgv⟩ := C0
  obtain ⟨g, hE⟩ := ext_start hts hgv
  obtain ⟨D, k, hK⟩ := k_start hts
  have hl := lv_entry ([.ref b]) (n := 4) (Nat.le_of_ble_eq_true rfl)
  rw [lg_entry_eq]
  obtain ⟨x, ex⟩ : ∃ x : CT, x = (p, l, e, room_1, s, m, #[Value.ref b], below, meth, c, lw_Z below #[Value.ref b] s, fun q => s.heap.size ≤ q, D, k, g) := ⟨_, rfl⟩
  have C : Cx x cL_law tb_L_law 4 RL (Cond.initialized RX9 :: wsL_law) room_1 := by
    rw [ex]
    exact ⟨⟨hx, hb, hml, hown, List.forall_mem_cons.mpr ⟨hts _ (li_all _ wq_1_2), fun w h => hts w (li_all w h)⟩⟩, tbk_L_law, rfl, fun q h => h, hK, hlocks, hE⟩
  have rt : RetLaw x b L xs (fun v => v = 1) := by
    rw [ex]
    exact ⟨⟨hX, hbl, Nat.not_le.mpr hbl⟩, ⟨rfl, rfl, rfl, hr, fun q h => h⟩, fun v h => h⟩
  have key : Wx x 4 0 0 [] [(0, .ref b)] 0 [] := by
    clear hl hE hK hgv hts ex
    refine x_new (ci := 7) (fs := [.null, .null, .null, .null, .null, .null, .null, .null, .int 0]) C 0 0 rfl fi_X9 tyX9 tyX9_ok (mc wq_1_0) (mc wq_1_1) (mc wq_1_2) rfl (fun j hj => match j, hj with | 0, _ => rfl | 1, _ => rfl | 2, _ => rfl | 3, _ => rfl | 4, _ => rfl | 5, _ => rfl | 6, _ => rfl | 7, _ => rfl | 8, _ => rfl | t + 9, h => absurd h (by omega)) ⟨by decide, by decide⟩ (fun q1 => ?_)
    refine x_dup C 1 3 rfl rfl ?_
    refine x_initA C 2 4 (c_X9_init (xl x) (xD x) (xk x) (xg x) q1) rfl wwGood (mem3 wq_1_7 wq_1_8 wq_1_2) wq_1_9 ok_X9_init rfl ⟨by decide, by decide⟩ (Nat.le_of_ble_eq_true rfl) ⟨by decide, by decide⟩ (fun u hu => ?_)
    have hq1 : q1 = u.1 0 := hu.symm
    rw [hq1]
    refine x_astore_n (lv' := [(0, .ref b), (1, .ref (u.1 0))]) C 3 7 rfl rfl (by decide) [1, 0] rfl ?_
    refine x_new (ci := 8) (fs := [.int 0, .null, .null, .int 0, .null, .null, .null, .int 0, .null, .int 0, .long 0, .null, .int 0, .int 0, .int 0, .null, .null, .int 0, .null, .null, .null, .int 0, .int 0, .null, .null, .null, .int 0, .null, .null, .null, .null, .int 0, .null, .null]) C 4 8 rfl fi_X10 tyX10 tyX10_ok (mc wq_1_3) (mc wq_1_4) (mc wq_1_5) rfl (fun j hj => match j, hj with | 0, _ => rfl | 1, _ => rfl | 2, _ => rfl | 3, _ => rfl | 4, _ => rfl | 5, _ => rfl | 6, _ => rfl | 7, _ => rfl | 8, _ => rfl | 9, _ => rfl | 10, _ => rfl | 11, _ => rfl | 12, _ => rfl | 13, _ => rfl | 14, _ => rfl | 15, _ => rfl | 16, _ => rfl | 17, _ => rfl | 18, _ => rfl | 19, _ => rfl | 20, _ => rfl | 21, _ => rfl | 22, _ => rfl | 23, _ => rfl | 24, _ => rfl | 25, _ => rfl | 26, _ => rfl | 27, _ => rfl | 28, _ => rfl | 29, _ => rfl | 30, _ => rfl | 31, _ => rfl | 32, _ => rfl | 33, _ => rfl | t + 34, h => absurd h (by omega)) ⟨by decide, by decide⟩ (fun q2 => ?_)
    refine x_dup C 5 11 rfl rfl ?_
    refine x_initA C 6 12 (c_X10_init (xl x) (xD x) (xk x) (xg x) q2 _ (hpure xs L hL)) rfl wwGood (mem3 wq_4_23 wq_5_0 wq_1_5) wq_5_1 ok_X10_init rfl ⟨by decide, by decide⟩ (Nat.le_of_ble_eq_true rfl) ⟨by decide, by decide⟩ (fun u2 hu2 => ?_)
    obtain ⟨hu3, h⟩ := hu2
    have hq2 : q2 = u2.1 0 := hu3.symm
    rw [hq2]
    refine x_astore_n (lv' := [(0, .ref b), (1, .ref (u.1 0)), (2, .ref (u2.1 0))]) C 7 15 rfl rfl (by decide) [1, 2, 0] rfl ?_
    have h9 := w_L_law_16 (aX := u.1) (aT := u.2.1) (aB := u.2.2.1) (aD := u.2.2.2.1) (aR := u.2.2.2.2.1) (aK := u.2.2.2.2.2.1) (aM := u.2.2.2.2.2.2.1) (aJ := u.2.2.2.2.2.2.2.1) (aV := u.2.2.2.2.2.2.2.2.1) (aW := u.2.2.2.2.2.2.2.2.2) (aS := u2.1) C rt h
    exact h9
  rw [ex] at key
  exact key s.heap [] _ (fun k q h => by simp at h) ⟨fun i j p q h => by simp at h, fun k q h => by simp at h⟩ va_S.rf hl
