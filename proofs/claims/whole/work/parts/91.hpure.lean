theorem sp_init {K : St → Prop} (h : ∀ s, PW s → (∀ q, q ≠ 11 → s q = sS1 q) → K s) : wp_X10_init K := by
  unfold wp_X10_init
  rintro _ rfl _ rfl
  refine lp_ind (fun q => ∃ m s, 1 ≤ m ∧ m ≤ 10 ∧ q = (nI m, s) ∧ (∀ k, k < m → s 11 k = nI (3 ^ k)) ∧ ∀ q, q ≠ 11 → s q = sS1 q) (fun q => 10 - q.1.toNatClampNeg) ?_ _ ⟨1, _, by omega, by omega, rfl, fun k hk => ?_, fun q hq => ua_n hq⟩
  · rintro _ R ⟨m, s, hm1, hm, rfl, h1, h2⟩ hR
    unfold F_X10_init_189
    dsimp only
    rw [show (10 : Int32) = nI 10 from rfl, nI_leI (by decide) (by omega)]
    refine ⟨fun c => h s (fun k hk => h1 k (by omega)) h2, fun c => ?_⟩
    rw [nI_sub1 (by omega)]
    refine ⟨vp_in_nI (by omega) (by decide), vp_in_nI (by omega) (by decide), ?_⟩
    rw [nI_clamp (n := m - 1) (by omega), h1 (m - 1) (by omega), show (3 : Int32) * nI (3 ^ (m - 1)) = nI (3 * 3 ^ (m - 1)) by rw [← pk_mul]; rfl, show 3 * 3 ^ (m - 1) = 3 ^ m by rw [Nat.mul_comm, ← Nat.pow_succ, show (m - 1).succ = m by omega]]
    rintro _ rfl _ rfl
    rw [nI_1]
    refine hR _ ⟨m + 1, _, by omega, by omega, rfl, fun k hk => ?_, fun q hq => by rw [ua_n hq]; exact h2 q hq⟩ ?_
    · rw [ua_s, nI_clamp (by omega)]
      by_cases e : k = m
      · subst e; rw [pk_us]
      · rw [pk_un e]; exact h1 k (by omega)
    · dsimp only; rw [nI_clamp (by omega), nI_clamp (by omega)]; omega
  · have : k = 0 := by omega
    subst this
    rw [ua_s]
    rfl
theorem JC_0 : JC sK0 := fun c hc => Or.inl (by
  unfold sK0
  rw [uf_s]
  exact if_pos hc)
theorem rel_0 {s : St} (hp : PW s) (hF : ∀ q, q ≠ 11 → s q = sS1 q) : RELs 0 s0 s0 s0 s0 sK0 sM0 sK0 sV0 0 s := by
  have e0 : ∀ q, q ≠ 11 → q ≠ 9 → s q = fun _ => 0 := fun q q1 q2 => by
    rw [hF q q1]
    unfold sS1
    rw [us_n q2]
    rfl
  refine ⟨B0, 0, 0, fun _ => 0, 0, fun _ => 0, 2, B0_ok, ⟨rfl, fun _ _ => rfl, fun c hc => absurd hc (Nat.not_lt_zero c)⟩, ⟨by rw [e0 3 (by decide) (by decide)]; rfl, fun a _ => by rw [e0 2 (by decide) (by decide)]; rfl, fun c hc => absurd hc (Nat.not_lt_zero c)⟩, hp, ⟨by rw [e0 26 (by decide) (by decide)]; rfl, fun c _ => ⟨0, Nat.le_refl _, by rw [e0 27 (by decide) (by decide)]; rfl⟩⟩, by omega, ⟨Or.inl rfl, JC_0⟩, RT.zero _ rfl (by rw [e0 7 (by decide) (by decide)]; rfl), TX.zero _ rfl (by rw [e0 0 (by decide) (by decide)]; rfl), ?_, ?_, by omega, JC_0, Or.inl ?_, Or.inl ?_⟩
  · unfold sV0; rw [us_s]; rfl
  · rw [hF 9 (by decide)]; unfold sS1; rw [us_s]; rfl
  · unfold sM0; rw [us_s]
  · unfold sM0; rw [us_n (by decide)]; rfl
set_option maxHeartbeats 8000000 in
set_option maxRecDepth 100000 in
theorem hpure_ok : ∀ (xs : Nat → Int32) (L : Nat), L ≤ 2560 → wp_X10_init (fun sS => Lp (F_L_law_18 xs L (fun v => v = 1)) ((0 : Int32), s0, s0, s0, s0, s0, sK0, sM0, sK0, sV0, (0 : Int64), sS, (0 : Int64))) := by
  intro xs L hL
  refine sp_init (fun s hp hF => ?_)
  refine lp_ind (fun q : Int32 × St × St × St × St × St × St × St × St × St × Int64 × St × Int64 => ∃ j sX sT sB sD sR sK sM sJ sV sW sS, 5 * j ≤ L ∧ q = (nI (5 * j), sX, sT, sB, sD, sR, sK, sM, sJ, sV, sW, sS, sW) ∧ RELs j sX sT sB sR sK sM sJ sV sW sS) (fun q => 2600 - q.1.toNatClampNeg) ?_ _ ⟨0, s0, s0, s0, s0, s0, sK0, sM0, sK0, sV0, 0, s, by omega, rfl, rel_0 hp hF⟩
  rintro _ R ⟨j, sX, sT, sB, sD, sR, sK, sM, sJ, sV, sW, sS, hj, rfl, hr⟩ hR
  by_cases hc : 5 * j + 5 ≤ L
  · refine law_step hL hc hr (fun sX' sT' sB' sD' sR' sK' sM' sJ' sV' sW' sS' h => ?_)
    rw [show nI (5 * j) + (5 : Int32) = nI (5 * (j + 1)) from nI_add (5 * j) 5]
    refine hR _ ⟨j + 1, sX', sT', sB', sD', sR', sK', sM', sJ', sV', sW', sS', by omega, rfl, h⟩ ?_
    dsimp only
    rw [nI_clamp (by omega), nI_clamp (by omega)]
    omega
  · unfold F_L_law_18
    dsimp only
    refine ⟨fun _ => rfl, fun z => absurd ?_ z⟩
    rw [ilt, show Int32.ofNat L = nI L from rfl, nI_toInt (by omega), show (nI L - (5 : Int32)).toInt = (L : Int) - 5 from pk_sub_toInt (b := 5) (by omega) (by decide)]
    omega
