section READ2
theorem sp_rd18 {s : St} {E : St → Prop} (h : ∀ s', (∀ j, j < 4 → s' 2 j = s 15 j) → (∀ q, q ≠ 2 → s' q = s q) → E s') : Lp (F_X10_read_18 E) ((0 : Int32), s) := by
  refine lp_ind (fun q => ∃ m s', m ≤ 4 ∧ q = (nI m, s') ∧ (∀ j, j < m → s' 2 j = s 15 j) ∧ ∀ q, q ≠ 2 → s' q = s q) (fun q => 4 - q.1.toNatClampNeg) ?_ _ ⟨0, s, by omega, rfl, fun k hk => absurd hk (by omega), fun _ _ => rfl⟩
  rintro _ R ⟨m, s', hm, rfl, h1, h2⟩ hR
  unfold F_X10_read_18
  dsimp only
  rw [show (4 : Int32) = nI 4 from rfl, nI_leI (by decide) (by omega)]
  refine ⟨fun c => ?_, fun c => ?_⟩
  · have : m = 4 := by omega
    subst this
    exact h s' h1 h2
  · have iv : vp_in (nI m) 4 := vp_in_nI (by omega) (by decide)
    refine ⟨iv, iv, ?_⟩
    rintro _ rfl _ rfl
    rw [nI_1]
    refine hR _ ⟨m + 1, _, by omega, rfl, fun j hj => ?_, fun q a1 => by rw [ua_n a1]; exact h2 q a1⟩ ?_
    · rw [ua_s, nI_clamp (by omega), h2 15 (by decide)]
      by_cases e : j = m
      · subst e; rw [pk_us]
      · rw [pk_un e]; exact h1 j (by omega)
    · dsimp only; rw [nI_clamp (by omega), nI_clamp (by omega)]; omega
theorem sp_rd51 {s : St} {E : St → Prop} (h : ∀ s', (∀ j, j < 8 → s' 4 j = s 18 j ∧ s' 5 j = s 19 j) → (∀ q, q ≠ 4 → q ≠ 5 → s' q = s q) → E s') : Lp (F_X10_read_51 E) ((0 : Int32), s) := by
  refine lp_ind (fun q => ∃ m s', m ≤ 8 ∧ q = (nI m, s') ∧ (∀ j, j < m → s' 4 j = s 18 j ∧ s' 5 j = s 19 j) ∧ ∀ q, q ≠ 4 → q ≠ 5 → s' q = s q) (fun q => 8 - q.1.toNatClampNeg) ?_ _ ⟨0, s, by omega, rfl, fun k hk => absurd hk (by omega), fun _ _ _ => rfl⟩
  rintro _ R ⟨m, s', hm, rfl, h1, h2⟩ hR
  unfold F_X10_read_51
  dsimp only
  rw [show (8 : Int32) = nI 8 from rfl, nI_leI (by decide) (by omega)]
  refine ⟨fun c => ?_, fun c => ?_⟩
  · have : m = 8 := by omega
    subst this
    exact h s' h1 h2
  · have iv : vp_in (nI m) 8 := vp_in_nI (by omega) (by decide)
    refine ⟨iv, iv, ?_⟩
    rintro _ rfl
    refine ⟨iv, iv, ?_⟩
    rintro _ rfl _ rfl
    rw [nI_1]
    refine hR _ ⟨m + 1, _, by omega, rfl, fun j hj => ?_, fun q a1 a2 => by rw [ua_n a2, ua_n a1]; exact h2 q a1 a2⟩ ?_
    · rw [ua_n (j := 4) (by decide), ua_s, ua_s, ua_n (j := 5) (by decide), ua_n (j := 19) (by decide), nI_clamp (by omega), h2 18 (by decide) (by decide), h2 19 (by decide) (by decide)]
      by_cases e : j = m
      · subst e; rw [pk_us, pk_us]; exact ⟨rfl, rfl⟩
      · rw [pk_un e, pk_un e]; exact h1 j (by omega)
    · dsimp only; rw [nI_clamp (by omega), nI_clamp (by omega)]; omega
theorem sp_rd89 {s : St} {E : St → Prop} (h : ∀ s', (∀ j, j < 72 → s' 6 j = s 20 j) → (∀ q, q ≠ 6 → s' q = s q) → E s') : Lp (F_X10_read_89 E) ((0 : Int32), s) := by
  refine lp_ind (fun q => ∃ m s', m ≤ 72 ∧ q = (nI m, s') ∧ (∀ j, j < m → s' 6 j = s 20 j) ∧ ∀ q, q ≠ 6 → s' q = s q) (fun q => 72 - q.1.toNatClampNeg) ?_ _ ⟨0, s, by omega, rfl, fun k hk => absurd hk (by omega), fun _ _ => rfl⟩
  rintro _ R ⟨m, s', hm, rfl, h1, h2⟩ hR
  unfold F_X10_read_89
  dsimp only
  rw [show (72 : Int32) = nI 72 from rfl, nI_leI (by decide) (by omega)]
  refine ⟨fun c => ?_, fun c => ?_⟩
  · have : m = 72 := by omega
    subst this
    exact h s' h1 h2
  · have iv : vp_in (nI m) 72 := vp_in_nI (by omega) (by decide)
    refine ⟨iv, iv, ?_⟩
    rintro _ rfl _ rfl
    rw [nI_1]
    refine hR _ ⟨m + 1, _, by omega, rfl, fun j hj => ?_, fun q a1 => by rw [ua_n a1]; exact h2 q a1⟩ ?_
    · rw [ua_s, nI_clamp (by omega), h2 20 (by decide)]
      by_cases e : j = m
      · subst e; rw [pk_us]
      · rw [pk_un e]; exact h1 j (by omega)
    · dsimp only; rw [nI_clamp (by omega), nI_clamp (by omega)]; omega
theorem sp_copyFrom {sB sO : St} {B : BK} (hO : OKb B) (hB : CB sO B) {K : St → Prop} (h : ∀ s', CB s' B → K s') : wp_X1_copyFrom sB sO K := by
  unfold wp_X1_copyFrom
  have hN := hO.1
  have c0 : (0 : Int32).toNatClampNeg = 0 := by decide
  have c4 : (4 : Int32).toNatClampNeg = 4 := by decide
  have c8 : (8 : Int32).toNatClampNeg = 8 := by decide
  refine ⟨by decide, by decide, by decide, ?_⟩
  rintro _ rfl
  refine ⟨by decide, by decide, by decide, ?_⟩
  rintro _ rfl
  refine ⟨by decide, by decide, by decide, ?_⟩
  rintro _ rfl
  refine ⟨by decide, by decide, by decide, ?_⟩
  rintro _ rfl _ rfl
  refine h _ ⟨by rw [us_s]; exact hB.1, fun a ha => ?_, fun c hc => ?_⟩
  · rw [us_n (by decide), uc_n (by decide), uc_n (by decide), uc_n (by decide), uc_s, c0, c4, pk_cpy_in (by omega) (by omega), show 0 + (a - 0) = a by omega]
    exact hB.2.1 a ha
  · rw [us_n (j := 1) (by decide), uc_n (j := 1) (by decide), uc_n (j := 1) (by decide), uc_s, us_n (j := 2) (by decide), uc_n (j := 2) (by decide), uc_s, us_n (j := 3) (by decide), uc_s, c0, c8, pk_cpy_in (by omega) (by omega), pk_cpy_in (by omega) (by omega), pk_cpy_in (by omega) (by omega), show 0 + (c - 0) = c by omega]
    exact hB.2.2 c hc
theorem neg10 : ∀ f, f < 301 → (-10 : Int32) - nI f < 0 := by decide +kernel
variable {sX sT sB sD sR sK sM sJ sV sS : St} {sW sL : Int64} {n : Nat} {tx : Nat → Nat}
theorem op_read (hT : TX sT sS n tx) {K : Int32 → (St × St × St × St × St × St) → Int32 → St → Prop} (h0 : ∀ a sT' sD' sS', TX sT' sS' n tx → FRD sS sS' → K a (sX, sT', sB, sD', sR, sM) a sS')
    (h : ∀ a B' sT' sB' sD' sS', OKb B' → CB sB' B' → MB sS' B' → sT' 1 0 = nI 0 → sS' 0 0 = nI 0 → sS' 7 0 = nI 0 → (∀ q, 8 ≤ q → q < 12 ∨ 21 < q → sS' q = sS q) → K a (us sX 8 0, sT', sB', sD', us sR 1 0, us (us sM 3 (-1)) 6 0) a sS') : wp_X9_read sX sT sB sD sR sK sM sJ sV sW (fun a u => wp_X10_read sS sL (fun a' u' => K a u a' u')) := by
  unfold wp_X9_read
  obtain ⟨h300, t1, t2, t3⟩ := hT
  have hc : CTx sT n tx := ⟨h300, t1, fun j hj => ⟨(t3 j hj).1, (t3 j hj).2.1⟩⟩
  have hm : MTx sS n tx := ⟨h300, t2, fun j hj => ⟨(t3 j hj).1, (t3 j hj).2.2⟩⟩
  refine sp_readInto (sL := sL) hc hm (fun f sT' sD' hf hc' hM => ?_) (fun B it sT' sD' hO hB hit hc' hM => ?_)
  · refine ⟨fun _ => ?_, fun z => absurd (neg10 f (by omega)) z⟩
    unfold wp_X10_read
    refine hM _ (fun s hs => ⟨fun z => absurd z.symm (n9_ne (by omega)), fun _ => h0 _ sT' sD' s ⟨h300, hc'.2.1, by rw [hs 0 (by omega)]; exact t2, fun j hj => ?_⟩ hs⟩)
    rw [hs 1 (by omega)]
    exact ⟨(t3 j hj).1, (hc'.2.2 j hj).2, (t3 j hj).2.2⟩
  · refine ⟨fun z => absurd z (nI_pos (by omega)), fun _ => ?_⟩
    refine sp_copyFrom hO hB (fun u3 hB3 => ?_)
    unfold wp_X5_empty wp_X7_empty wp_X9_forgetWhatFollows wp_X4_forget
    rintro _ rfl _ rfl _ rfl _ rfl _ rfl _ rfl _ rfl
    unfold wp_X10_read
    have hN := hO.1
    refine hM _ (fun s tm hR hF => ⟨fun _ => ?_, fun z => absurd rfl z⟩)
    obtain ⟨g1, g2, g3, g4⟩ := hR
    refine sp_rd18 (fun s1 a1 a2 => ?_)
    rintro _ rfl
    refine sp_rd51 (fun s2 b1 b2 => ?_)
    refine sp_rd89 (fun s3 d1 d2 => ?_)
    rintro _ rfl _ rfl
    have e21 : (us (us s3 7 0) 0 0) 21 0 = nI it := by rw [us_n (by decide), us_n (by decide), d2 21 (by decide), b2 21 (by decide) (by decide), us_n (by decide), a2 21 (by decide)]; exact g4
    rw [e21]
    refine h _ B _ u3 sD' _ hO hB3 ⟨?_, fun a ha => ?_, fun c hc => ?_⟩ (by rw [us_s]; rfl) (by rw [us_s]; rfl) (by rw [us_n (by decide), us_s]; rfl) (fun q q1 q2 => ?_)
    · rw [us_n (by decide), us_n (by decide), d2 3 (by decide), b2 3 (by decide) (by decide), us_s, a2 17 (by decide)]; exact g1
    · rw [us_n (by decide), us_n (by decide), d2 2 (by decide), b2 2 (by decide) (by decide), us_n (by decide), a1 a ha]; exact (g2 a ha).1
    · obtain ⟨x1, x2, x3⟩ := g3 c hc
      obtain ⟨y1, y2⟩ := b1 c (by omega)
      refine ⟨?_, ?_, fun k hk => ?_⟩
      · rw [us_n (by decide), us_n (by decide), d2 4 (by decide), y1, us_n (by decide), a2 18 (by decide)]; exact x1
      · rw [us_n (by decide), us_n (by decide), d2 5 (by decide), y2, us_n (by decide), a2 19 (by decide)]; exact x2
      · rw [us_n (by decide), us_n (by decide), d1 _ (by omega), b2 20 (by decide) (by decide), us_n (by decide), a2 20 (by decide)]; exact x3 k hk
    · rw [us_n (by omega), us_n (by omega), d2 q (by omega), b2 q (by omega) (by omega), us_n (by omega), a2 q (by omega)]; exact hF q q2
end READ2
