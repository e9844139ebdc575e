/-! ===== class and model, call by call ===== -/
def RELs (j : Nat) (sX sT sB sR sK sM sJ sV : St) (sW : Int64) (sS : St) : Prop := ∃ (B : BK) (t n : Nat) (tx : Nat → Nat) (nt : Nat) (tr : Nat → Nat) (M : Nat), OKb B ∧ CB sB B ∧ MB sS B ∧ PW sS ∧ STm sS t ∧ t ≤ 257 * j ∧ CX B sX sK ∧ RT sR sS B nt tr ∧ TX sT sS n tx ∧ sV 0 0 = nI M ∧ sS 9 0 = nI M ∧ M ≤ 3 ∧ JC sJ ∧ (sM 3 0 = -1 ∨ ∃ S, LSt B S ∧ sM 3 0 = nI S) ∧ NC B sM
theorem MB.fr {sS s' : St} {B : BK} (h : MB sS B) (e : ∀ q, 2 ≤ q → q ≤ 6 → s' q = sS q) : MB s' B := by
  refine ⟨by rw [e 3 (by decide) (by decide)]; exact h.1, fun a ha => by rw [e 2 (by decide) (by decide)]; exact h.2.1 a ha, fun c hc => ?_⟩
  obtain ⟨h1, h2, h3⟩ := h.2.2 c hc
  exact ⟨by rw [e 4 (by decide) (by decide)]; exact h1, by rw [e 5 (by decide) (by decide)]; exact h2, fun k hk => by rw [e 6 (by decide) (by decide)]; exact h3 k hk⟩
theorem PW.fr {sS s' : St} (h : PW sS) (e : s' 11 = sS 11) : PW s' := fun k hk => by rw [e]; exact h k hk
theorem RT.fr {sR sS s' : St} {B : BK} {nt : Nat} {tr : Nat → Nat} (h : RT sR sS B nt tr) (e7 : s' 7 = sS 7) (e8 : s' 8 = sS 8) : RT sR s' B nt tr := by unfold RT at *; rw [e7, e8]; exact h
theorem TX.fr {sT sS s' : St} {n : Nat} {tx : Nat → Nat} (h : TX sT sS n tx) (e0 : s' 0 = sS 0) (e1 : s' 1 = sS 1) : TX sT s' n tx := by unfold TX at *; rw [e0, e1]; exact h
theorem TX.zero {sT sS : St} (tx : Nat → Nat) (e1 : sT 1 0 = nI 0) (e0 : sS 0 0 = nI 0) : TX sT sS 0 tx := ⟨by omega, e1, e0, fun j hj => absurd hj (by omega)⟩
theorem RT.zero {sR sS : St} {B : BK} (tr : Nat → Nat) (e1 : sR 1 0 = nI 0) (e7 : sS 7 0 = nI 0) : RT sR sS B 0 tr := ⟨by omega, e1, e7, fun j hj => absurd hj (by omega)⟩
theorem NC.fr {sM s' : St} {B : BK} (h : NC B sM) (e4 : s' 4 = sM 4) (e5 : s' 5 = sM 5) (e6 : s' 6 = sM 6) (e7 : s' 7 = sM 7) : NC B s' := by
  rcases h with h | ⟨h1, h2⟩
  · exact Or.inl (by rw [e6]; exact h)
  · exact Or.inr ⟨by rw [e6]; exact h1, h2.fr e4 e5 e7⟩
theorem nxq {a e : Int32} {P : Int32 → Prop} {Q : Prop} (h : P e) : (a = a → ∀ y, y = e → P y) ∧ (¬ a = a → Q) := ⟨fun _ y hy => by rw [hy]; exact h, fun z => absurd rfl z⟩
section PURE
variable {xs : Nat → Int32} {L j : Nat} {K : Int32 → Prop} {R : Int32 × St × St × St × St × St × St × St × St × St × Int64 × St × Int64 → Prop} {sX sT sB sD sR sK sM sJ sV sS : St} {sW : Int64}
set_option maxHeartbeats 8000000 in
set_option maxRecDepth 100000 in
theorem law_step (hL : L ≤ 2560) (hj : 5 * j + 5 ≤ L) (h : RELs j sX sT sB sR sK sM sJ sV sW sS) (nxt : ∀ sX' sT' sB' sD' sR' sK' sM' sJ' sV' sW' sS', RELs (j + 1) sX' sT' sB' sR' sK' sM' sJ' sV' sW' sS' → R (nI (5 * j) + 5, sX', sT', sB', sD', sR', sK', sM', sJ', sV', sW', sS', sW')) : F_L_law_18 xs L K R (nI (5 * j), sX, sT, sB, sD, sR, sK, sM, sJ, sV, sW, sS, sW) := by
  obtain ⟨B, t, n, tx, nt, tr, M, hO, hB, hM, hp, hst, ht, hX, hRT, hTX, hV, h9, hM3, hJ, h3, hC⟩ := h
  have hN := hO.1
  have htL : t ≤ 131584 := by omega
  have v1 : vp_in (nI (5 * j) + (1 : Int32)) L := by rw [show nI (5 * j) + (1 : Int32) = nI (5 * j + 1) from nI_add _ 1]; exact vp_in_nI (by omega) (by omega)
  have v2 : vp_in (nI (5 * j) + (2 : Int32)) L := by rw [show nI (5 * j) + (2 : Int32) = nI (5 * j + 2) from nI_add _ 2]; exact vp_in_nI (by omega) (by omega)
  have v3 : vp_in (nI (5 * j) + (3 : Int32)) L := by rw [show nI (5 * j) + (3 : Int32) = nI (5 * j + 3) from nI_add _ 3]; exact vp_in_nI (by omega) (by omega)
  have v4 : vp_in (nI (5 * j) + (4 : Int32)) L := by rw [show nI (5 * j) + (4 : Int32) = nI (5 * j + 4) from nI_add _ 4]; exact vp_in_nI (by omega) (by omega)
  have w1 := eq_true v1
  have w2 := eq_true v2
  have w3 := eq_true v3
  have w4 := eq_true v4
  have same : RELs (j + 1) sX sT sB sR sK sM sJ sV sW sS := ⟨B, t, n, tx, nt, tr, M, hO, hB, hM, hp, hst, by omega, hX, hRT, hTX, hV, h9, hM3, hJ, h3, hC⟩
  have viaKP : ∀ sX' sK' sS', CX B sX' sK' → KP sS sS' → STm sS' (t + 1) → RELs (j + 1) sX' sT sB sR sK' sM sJ sV sW sS' := fun sX' sK' sS' a1 a2 a3 => ⟨B, t + 1, n, tx, nt, tr, M, hO, hB, a2.MB hM, a2.PW hp, a3, by omega, a1, hRT.fr (a2 7 (by decide)) (a2 8 (by decide)), hTX.fr (a2 0 (by decide)) (a2 1 (by decide)), hV, by rw [a2 9 (by decide)]; exact h9, hM3, hJ, h3, hC⟩
  have notEnd : ¬ (Int32.ofNat L - (5 : Int32)) < nI (5 * j) := by
    rw [ilt, show Int32.ofNat L = nI L from rfl, nI_toInt (by omega), show (nI L - (5 : Int32)).toInt = (L : Int) - 5 from pk_sub_toInt (b := 5) (by omega) (by decide)]
    omega
  unfold F_L_law_18
  dsimp only
  refine ⟨fun c => absurd c notEnd, fun _ => ⟨vp_in_nI (by omega) (by omega), fun c => ?_, fun _ => ⟨fun c => ?_, fun _ => ⟨fun c => ?_, fun _ => ⟨fun c => ?_, fun _ => ⟨fun c => ?_, fun _ => ⟨fun c => ?_, fun _ => ⟨fun c => ?_, fun _ => ⟨fun c => ?_, fun _ => ⟨fun c => ?_, fun _ => ⟨fun c => ?_, fun _ => ⟨fun c => ?_, fun _ => ⟨fun c => ?_, fun _ => ⟨fun c => ?_, fun _ => ⟨fun c => ?_, fun _ => ⟨fun c => ?_, fun _ => ⟨fun c => ?_, fun _ => ⟨fun c => ?_, fun _ => ⟨fun c => ?_, fun _ => ⟨fun c => ?_, fun _ => ⟨fun c => ?_, fun _ => ⟨fun c => ?_, fun _ => ⟨fun c => ?_, fun _ => ⟨fun c => ?_, fun _ => ⟨fun c => ?_, fun _ => ?_⟩⟩⟩⟩⟩⟩⟩⟩⟩⟩⟩⟩⟩⟩⟩⟩⟩⟩⟩⟩⟩⟩⟩⟩⟩
  · -- type
    simp only [w1, w2, w3, true_and]
    refine op_type hTX (fun a => nxq (nxt _ _ _ _ _ _ _ _ _ _ _ same)) (fun n' tx' sT' sS' a1 a2 => nxq (nxt _ _ _ _ _ _ _ _ _ _ _ ?_))
    exact ⟨B, t, n', tx', nt, tr, M, hO, hB, hM.fr (fun q q1 q2 => a2 q (by omega) (by omega)), hp.fr (a2 11 (by decide) (by decide)), hst.fr (a2 26 (by decide) (by decide)) (a2 27 (by decide) (by decide)), by omega, hX, hRT.fr (a2 7 (by decide) (by decide)) (a2 8 (by decide) (by decide)), a1, hV, by rw [a2 9 (by decide) (by decide)]; exact h9, hM3, hJ, h3, hC⟩
  · -- clear
    refine op_clear (by rw [hTX.2.1, hTX.2.2.1]) (nxq (nxt _ _ _ _ _ _ _ _ _ _ _ ?_))
    exact ⟨B, t, 0, tx, nt, tr, M, hO, hB, hM.fr (fun q q1 q2 => us_n (by omega)), hp.fr (us_n (by decide)), hst.fr (us_n (by decide)) (us_n (by decide)), by omega, hX, hRT.fr (us_n (by decide)) (us_n (by decide)), TX.zero tx (by rw [us_s]; rfl) (by rw [us_s]; rfl), hV, by rw [us_n (by decide)]; exact h9, hM3, hJ, h3, hC⟩
  · -- read
    refine op_read hTX (fun a sT' sD' sS' a1 a2 => nxq (nxt _ _ _ _ _ _ _ _ _ _ _ ?_)) (fun a B' sT' sB' sD' sS' a1 a2 a3 a4 a5 a6 a7 => nxq (nxt _ _ _ _ _ _ _ _ _ _ _ ?_))
    · have kp : KP sS sS' := fun q hq => a2 q (Or.inl hq)
      exact ⟨B, t, n, tx, nt, tr, M, hO, hB, kp.MB hM, kp.PW hp, hst.fr (a2 26 (by decide)) (a2 27 (by decide)), by omega, hX, hRT.fr (kp 7 (by decide)) (kp 8 (by decide)), a1, hV, by rw [kp 9 (by decide)]; exact h9, hM3, hJ, h3, hC⟩
    · dsimp only
      exact ⟨B', t, 0, tx, 0, tr, M, a1, a2, a3, hp.fr (a7 11 (by decide) (by decide)), hst.fr (a7 26 (by decide) (by decide)) (a7 27 (by decide) (by decide)), by omega, ⟨Or.inl (by rw [us_s]), hX.2⟩, RT.zero tr (by rw [us_s]; rfl) a6, TX.zero tx a4 a5, hV, by rw [a7 9 (by decide) (by decide)]; exact h9, hM3, hJ, Or.inl (by rw [us_n (by decide), us_s]), Or.inl (by rw [us_s])⟩
  · -- places
    simp only [w1, true_and]
    exact op_places hB hM (fun r => nxq (nxt _ _ _ _ _ _ _ _ _ _ _ same))
  · -- call
    simp only [w1, w2, true_and]
    exact op_call hO hB hM (fun r => nxq (nxt _ _ _ _ _ _ _ _ _ _ _ same))
  · -- arc
    simp only [w1, w2, w3, true_and]
    exact op_arc hO hB hM (fun r => nxq (nxt _ _ _ _ _ _ _ _ _ _ _ same))
  · -- put
    simp only [w1, w2, w3, w4, true_and]
    refine op_put hO hB hM (fun a => nxq (nxt _ _ _ _ _ _ _ _ _ _ _ same)) (fun a B' sB' sS' a1 a2 a3 a4 a5 => nxq (nxt _ _ _ _ _ _ _ _ _ _ _ ?_))
    have hRT' : RT sR sS' B' nt tr := by
      have := hRT.fr (a5 7 (by decide)) (a5 8 (by decide))
      exact ⟨this.1, this.2.1, this.2.2.1, fun i hi => ⟨by rw [a4]; exact (this.2.2.2 i hi).1, (this.2.2.2 i hi).2⟩⟩
    dsimp only
    exact ⟨B', t, n, tx, nt, tr, M, a1, a2, a3, hp.fr (a5 11 (by decide)), hst.fr (a5 26 (by decide)) (a5 27 (by decide)), by omega, ⟨Or.inl (by rw [us_s]), hX.2⟩, hRT', hTX.fr (a5 0 (by decide)) (a5 1 (by decide)), hV, by rw [a5 9 (by decide)]; exact h9, hM3, hJ, Or.inl (by rw [us_n (by decide), us_s]), Or.inl (by rw [us_s])⟩
  · -- graphs
    exact op_graphs hO hB hM hp hst (by omega) hX (fun a sX' sK' sS' a1 a2 a3 => nxq (nxt _ _ _ _ _ _ _ _ _ _ _ (viaKP _ _ _ a1 a2.kp a3)))
  · -- graph
    simp only [w1, w2, true_and]
    exact op_graph hO hB hM hp hst (by omega) hX (fun a => nxq (nxt _ _ _ _ _ _ _ _ _ _ _ same)) (fun a sX' sK' sS' a1 a2 a3 => nxq (nxt _ _ _ _ _ _ _ _ _ _ _ (viaKP _ _ _ a1 a2.kp a3)))
  · -- together
    simp only [w1, w2, true_and]
    exact op_together hp (fun r => nxq (nxt _ _ _ _ _ _ _ _ _ _ _ same))
  · -- ends
    simp only [w1, true_and]
    exact op_ends hO hB hM hp hst (by omega) hX (fun a => nxq (nxt _ _ _ _ _ _ _ _ _ _ _ same)) (fun a sX' sK' sS' a1 a2 a3 => nxq (nxt _ _ _ _ _ _ _ _ _ _ _ (viaKP _ _ _ a1 a2.kp a3)))
  · -- shortest
    simp only [w1, true_and]
    exact op_shortest hO hB hM hp hst (by omega) hX (fun a => nxq (nxt _ _ _ _ _ _ _ _ _ _ _ same)) (fun a sX' sK' sS' a1 a2 a3 => nxq (nxt _ _ _ _ _ _ _ _ _ _ _ (viaKP _ _ _ a1 a2 a3)))
  · -- go
    simp only [w1, true_and]
    refine op_go hO hB hM hRT (fun a => nxq (nxt _ _ _ _ _ _ _ _ _ _ _ same)) (fun c0 a1 a2 => nxq (nxt _ _ _ _ _ _ _ _ _ _ _ ?_))
    obtain ⟨r1, r2, r3, r4⟩ := hRT
    have hRT' : RT (us (ua sR 0 (nI nt) (nI c0)) 1 (nI (nt + 1))) (us (ua sS 8 (nI nt) (nI c0)) 7 (nI (nt + 1))) B (nt + 1) (up tr nt c0) := by
      refine ⟨by omega, by rw [us_s], by rw [us_s], fun i hi => ?_⟩
      rw [us_n (j := 0) (by decide), us_n (j := 8) (by decide), ua_s, ua_s, nI_clamp (by omega)]
      by_cases e : i = nt
      · subst e; rw [up_s, pk_us, pk_us]; exact ⟨a1, rfl, rfl⟩
      · rw [up_n e, pk_un e, pk_un e]; exact r4 i (by omega)
    exact ⟨B, t, n, tx, nt + 1, up tr nt c0, M, hO, hB, hM.fr (fun q q1 q2 => by rw [us_n (by omega), ua_n (by omega)]), hp.fr (by rw [us_n (by decide), ua_n (by decide)]), hst.fr (by rw [us_n (by decide), ua_n (by decide)]) (by rw [us_n (by decide), ua_n (by decide)]), by omega, hX, hRT', hTX.fr (by rw [us_n (by decide), ua_n (by decide)]) (by rw [us_n (by decide), ua_n (by decide)]), hV, by rw [us_n (by decide), ua_n (by decide)]; exact h9, hM3, hJ, h3, hC⟩
  · -- anew
    refine op_anew hRT (nxq (nxt _ _ _ _ _ _ _ _ _ _ _ ?_))
    exact ⟨B, t, n, tx, 0, tr, M, hO, hB, hM.fr (fun q q1 q2 => us_n (by omega)), hp.fr (us_n (by decide)), hst.fr (us_n (by decide)) (us_n (by decide)), by omega, hX, RT.zero tr (by rw [us_s]; rfl) (by rw [us_s]; rfl), hTX.fr (us_n (by decide)) (us_n (by decide)), hV, by rw [us_n (by decide)]; exact h9, hM3, hJ, h3, hC⟩
  · -- trip
    simp only [w1, true_and]
    exact op_trip hO hB hM hp hRT (fun r => nxq (nxt _ _ _ _ _ _ _ _ _ _ _ same))
  · -- slow
    simp only [w1, true_and]
    exact op_slow hO hB hM hp hst (by omega) hX (fun a => nxq (nxt _ _ _ _ _ _ _ _ _ _ _ same)) (fun a sX' sK' sS' a1 a2 a3 => nxq (nxt _ _ _ _ _ _ _ _ _ _ _ (viaKP _ _ _ a1 a2 a3)))
  · -- mended
    simp only [w1, true_and]
    refine op_mended hO hB hM hp hst (by omega) hX hJ h3 (fun a => nxq (nxt _ _ _ _ _ _ _ _ _ _ _ same)) (fun a sX' sK' sM' sJ' sS' t' a1 a2 a3 a4 a5 a6 a7 => nxq (nxt _ _ _ _ _ _ _ _ _ _ _ ?_))
    exact ⟨B, t', n, tx, nt, tr, M, hO, hB, a5.MB hM, a5.PW hp, a6, by omega, a1, hRT.fr (a5 7 (by decide)) (a5 8 (by decide)), hTX.fr (a5 0 (by decide)) (a5 1 (by decide)), hV, by rw [a5 9 (by decide)]; exact h9, hM3, a2, a3, hC.fr (a4 4 (by decide) (by decide) (by decide)) (a4 5 (by decide) (by decide) (by decide)) (a4 6 (by decide) (by decide) (by decide)) (a4 7 (by decide) (by decide) (by decide))⟩
  · -- needed
    simp only [w1, true_and]
    refine op_needed hO hB hM hp hst (by omega) hX hJ hC (fun a sX' sB' sK' sM' sJ' sS' t' a1 a2 a3 a4 a5 a6 a7 a8 a9 => nxq (nxt _ _ _ _ _ _ _ _ _ _ _ ?_))
    dsimp only
    exact ⟨B, t', n, tx, nt, tr, M, hO, a2, a6, hp.fr (a7 11 (by decide) (by decide)), a8, by omega, a1, hRT.fr (a7 7 (by decide) (by decide)) (a7 8 (by decide) (by decide)), hTX.fr (a7 0 (by decide) (by decide)) (a7 1 (by decide) (by decide)), hV, by rw [a7 9 (by decide) (by decide)]; exact h9, hM3, a3, by rw [a5]; exact h3, a4⟩
  · -- most
    simp only [w1, true_and]
    refine op_most hV h9 (fun a => nxq (nxt _ _ _ _ _ _ _ _ _ _ _ same)) (fun m hm => nxq (nxt _ _ _ _ _ _ _ _ _ _ _ ?_))
    exact ⟨B, t, n, tx, nt, tr, m, hO, hB, hM.fr (fun q q1 q2 => us_n (by omega)), hp.fr (us_n (by decide)), hst.fr (us_n (by decide)) (us_n (by decide)), by omega, hX, hRT.fr (us_n (by decide)) (us_n (by decide)), hTX.fr (us_n (by decide)) (us_n (by decide)), by rw [us_s], by rw [us_s], hm, hJ, h3, hC⟩
  · -- longest
    simp only [w1, w2, w3, w4, true_and]
    refine op_longest hO hB hM hV h9 hM3 (fun a sV' sS' a1 a2 => nxq (nxt _ _ _ _ _ _ _ _ _ _ _ ?_))
    exact ⟨B, t, n, tx, nt, tr, M, hO, hB, hM.fr (fun q q1 q2 => a2 q (by omega)), hp.fr (a2 11 (by decide)), hst.fr (a2 26 (by decide)) (a2 27 (by decide)), by omega, hX, hRT.fr (a2 7 (by decide)) (a2 8 (by decide)), hTX.fr (a2 0 (by decide)) (a2 1 (by decide)), by rw [a1]; exact hV, by rw [a2 9 (by decide)]; exact h9, hM3, hJ, h3, hC⟩
  · -- next
    simp only [w1, w2, w3, w4, true_and]
    refine op_next hO hB hM hV h9 hM3 (fun a sV' a1 => nxq (nxt _ _ _ _ _ _ _ _ _ _ _ ?_))
    exact ⟨B, t, n, tx, nt, tr, M, hO, hB, hM, hp, hst, by omega, hX, hRT, hTX, by rw [a1]; exact hV, h9, hM3, hJ, h3, hC⟩
  · -- weight
    simp only [w1, w2, true_and]
    exact op_weight hO hB hM (fun a t1 => nxq (nxt _ _ _ _ _ _ _ _ _ _ _ ⟨B, t, n, tx, nt, tr, M, hO, hB, hM, hp, hst, by omega, hX, hRT, hTX, hV, h9, hM3, hJ, h3, hC⟩))
  · -- count
    simp only [w1, true_and]
    exact op_count hO hB hM (by rw [hRT.2.1, hRT.2.2.1]) (by rw [hTX.2.1, hTX.2.2.1]) (by rw [hV, h9]) (fun r => nxq (nxt _ _ _ _ _ _ _ _ _ _ _ same))
  · -- trace
    unfold wp_X9_trace wp_X10_trace
    refine ⟨fun _ => ?_, fun z => absurd ((lg_cmp_eq sW sW).mpr rfl) z⟩
    rintro _ rfl
    exact nxt _ _ _ _ _ _ _ _ _ _ _ same
  · rintro _ rfl
    exact nxt _ _ _ _ _ _ _ _ _ _ _ same
end PURE
