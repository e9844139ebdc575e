/-! ===== reading: all ===== -/
def B0 : BK := (0, fun _ => 0, fun _ => 0, fun _ => 0, fun _ => 0)
theorem B0_ok : OKb B0 := ⟨Nat.zero_le _, fun _ _ => Nat.zero_le _, fun c hc => absurd hc (Nat.not_lt_zero c)⟩
theorem sp_17 {s : St} {E : St → Prop} (h : ∀ s', (∀ k, k < 4 → s' 15 k = 0 ∧ s' 16 k = 0) → (∀ q, q ≠ 15 → q ≠ 16 → s' q = s q) → E s') : Lp (F_X10_readAll_17 E) ((0 : Int32), s) := by
  refine lp_ind (fun q => ∃ m s', m ≤ 4 ∧ q = (nI m, s') ∧ (∀ k, k < m → s' 15 k = 0 ∧ s' 16 k = 0) ∧ ∀ q, q ≠ 15 → q ≠ 16 → s' q = s q) (fun q => 4 - q.1.toNatClampNeg) ?_ _ ⟨0, s, by omega, rfl, fun k hk => absurd hk (by omega), fun _ _ _ => rfl⟩
  rintro _ R ⟨m, s', hm, rfl, h1, h2⟩ hR
  unfold F_X10_readAll_17
  dsimp only
  rw [show (4 : Int32) = nI 4 from rfl, nI_leI (by decide) (by omega)]
  refine ⟨fun c => ?_, fun c => ?_⟩
  · have : m = 4 := by omega
    subst this
    exact h s' h1 h2
  · have iv : vp_in (nI m) 4 := vp_in_nI (by omega) (by decide)
    refine ⟨iv, ?_⟩
    rintro _ rfl
    refine ⟨iv, ?_⟩
    rintro _ rfl _ rfl
    rw [nI_1]
    refine hR _ ⟨m + 1, _, by omega, rfl, fun k hk => ?_, fun q a1 a2 => by rw [ua_n a2, ua_n a1]; exact h2 q a1 a2⟩ ?_
    · rw [ua_n (j := 15) (by decide), ua_s, ua_s, ua_n (j := 16) (by decide), nI_clamp (by omega)]
      by_cases e : k = m
      · subst e; rw [pk_us, pk_us]; exact ⟨rfl, rfl⟩
      · rw [pk_un e, pk_un e]; exact h1 k (by omega)
    · dsimp only; rw [nI_clamp (by omega), nI_clamp (by omega)]; omega
section RALL
variable {sS : St} {sL : Int64} {n : Nat} {tx : Nat → Nat} {k0 v0 st0 bh0 : Nat}
theorem rd_start (hT : MTx sS n tx) (t0 : TK n tx 0 k0 v0 st0 bh0) {K' : Int32 → St → Prop} (h : ∀ s0, MS sS n tx B0 0 0 k0 v0 st0 bh0 s0 → Lp (F_X10_readAll_47 sL K') (mkI k0, s0)) : wp_X10_readAll sS sL K' := by
  unfold wp_X10_readAll
  rintro _ rfl _ rfl _ rfl
  refine sp_17 (fun s' a1 a2 => ?_)
  refine tokR (p := 0) (sS := sS) (B := B0) (tm := 0) (it := 0) ⟨?_, ⟨?_, fun a ha => ?_, fun c hc => absurd hc (Nat.not_lt_zero c), ?_⟩, fun q hq => ?_, ?_⟩ t0 h
  · exact hT.fr (by rw [a2 0 (by decide) (by decide), us_n (by decide), us_n (by decide), us_n (by decide)]) (by rw [a2 1 (by decide) (by decide), us_n (by decide), us_n (by decide), us_n (by decide)])
  · rw [a2 17 (by decide) (by decide), us_n (by decide), us_n (by decide), us_s]; rfl
  · obtain ⟨x1, x2⟩ := a1 a ha
    rw [x1, x2, Nat.zero_div]
    exact ⟨rfl, rfl⟩
  · rw [a2 21 (by decide) (by decide), us_n (by decide), us_s]; rfl
  · rw [a2 q (by omega) (by omega), us_n (by omega), us_n (by omega), us_n (by omega)]
  · rw [a2 12 (by decide) (by decide), us_s]; rfl
variable {B : BK} {tm i k v st bh p : Nat} {K' : Int32 → St → Prop} {P : Int32 × St → Prop}
theorem rd_114 {s : St} (h : MP sS n tx B tm i p s) (hT : TK n tx p k v st bh) (hn : ∀ s', MS sS n tx B tm (i + 1) k v st bh s' → P (mkI k, s')) : J_X10_readAll_114 s sL P := by
  unfold J_X10_readAll_114
  rintro _ rfl
  obtain ⟨h1, ⟨g1, g2, g3, g4⟩, h3, h4⟩ := h
  rw [g4, nI_1]
  refine tokR (p := p) ⟨?_, ⟨?_, fun a ha => ?_, fun c hc => ?_, ?_⟩, fun q hq => ?_, ?_⟩ hT hn
  · exact h1.fr (us_n (by decide)) (us_n (by decide))
  · rw [us_n (by decide)]; exact g1
  · rw [us_n (by decide), us_n (by decide)]; exact g2 a ha
  · rw [us_n (by decide), us_n (by decide), us_n (by decide)]; exact g3 c hc
  · rw [us_s]
  · rw [us_n (by omega)]; exact h3 q hq
  · rw [us_n (by decide)]; exact h4
theorem rd_fault {s : St} (hO : OKb B) (hs : MS sS n tx B tm i k v st bh s) (hk1 : k ≠ 1) (h2 : ¬ (k = 2 ∧ bN B = 0)) (h3 : ¬ (k = 3 ∧ bN B < 8)) (hk : K' (nI st) s) : F_X10_readAll_47 sL K' P (mkI k, s) := by
  have hN := hO.1
  unfold F_X10_readAll_47
  dsimp only
  have f81 : J_X10_readAll_81 s sL (mkI k) K' P := by
    unfold J_X10_readAll_81 J_X10_readAll_82
    rw [hs.2.2.2.1]
    exact ⟨fun _ => hk, fun z => absurd rfl z⟩
  have f63 : J_X10_readAll_63 s sL (mkI k) K' P := by
    unfold J_X10_readAll_63
    rw [mkI_2, hs.2.1.1, show (8 : Int32) = nI 8 from rfl, nI_leI (by decide) (by omega)]
    exact ⟨fun e => ⟨fun _ => f81, fun z => absurd ⟨e, by omega⟩ h3⟩, fun _ => f81⟩
  rw [mkI_0, mkI_1, hs.2.1.1, nI_z (by omega)]
  exact ⟨fun z => absurd z hk1, fun _ => ⟨fun e => ⟨fun z => absurd ⟨e, z⟩ h2, fun _ => f63⟩, fun _ => f63⟩⟩
set_option maxHeartbeats 2000000 in
theorem sp_readInto {sT sD : St} (hc : CTx sT n tx) (hT : MTx sS n tx) {K : Int32 → (St × St) → Prop}
    (bad : ∀ f sT' sD', f ≤ n → CTx sT' n tx → (∀ K' : Int32 → St → Prop, (∀ s, FRD sS s → K' (nI f) s) → wp_X10_readAll sS sL K') → K ((-10 : Int32) - nI f) (sT', sD'))
    (ok : ∀ B it sT' sD', OKb B → CB sD' B → it ≤ 300 → CTx sT' n tx → (∀ K' : Int32 → St → Prop, (∀ s tm, RMr s B tm it → FRD sS s → K' (-9) s) → wp_X10_readAll sS sL K') → K (nI it) (sT', sD')) : wp_X7_readInto sT sD K := by
  unfold wp_X7_readInto wp_X1_wipe
  have h300 := hc.1
  rintro _ rfl _ rfl _ rfl _ rfl _ rfl
  have hB0 : CB (us (uf sD 0 4 0) 4 0) B0 := ⟨by rw [us_s]; rfl, fun a ha => by rw [us_n (by decide), uf_s]; simp only; rw [if_pos ha]; rfl, fun c hc => absurd hc (Nat.not_lt_zero c)⟩
  refine advR (p := 0) (tm := 0) (hc.fr (by rw [us_n (by decide), us_n (by decide), us_n (by decide)]) (by rw [us_n (by decide), us_n (by decide), us_n (by decide)])) (by rw [us_s]; rfl) (by omega) (by rw [us_n (by decide), us_n (by decide), us_s]; rfl) (by rw [us_n (by decide), us_s]) (fun u5 k0 v0 st0 bh0 t0 r0 => ?_)
  refine lp_ind (fun q => ∃ i sT' sD', i ≤ 300 ∧ q = (nI i, sT', sD') ∧ ((∃ f, f ≤ n ∧ FLT n tx f sT' ∧ ∀ (K' : Int32 → St → Prop) (P : Int32 × St → Prop), (∀ q, F_X10_readAll_47 sL K' P q → P q) → (∀ s, FRD sS s → K' (nI f) s) → ∀ s0, MS sS n tx B0 0 0 k0 v0 st0 bh0 s0 → P (mkI k0, s0)) ∨ (∃ B tm k v st bh p, OKb B ∧ CB sD' B ∧ tm < 16 ∧ i ≤ st ∧ TK n tx p k v st bh ∧ RC n tx tm k v st bh sT' ∧ ∀ (K' : Int32 → St → Prop) (P : Int32 × St → Prop), (∀ q, F_X10_readAll_47 sL K' P q → P q) → (∀ s, MS sS n tx B tm i k v st bh s → P (mkI k, s)) → ∀ s0, MS sS n tx B0 0 0 k0 v0 st0 bh0 s0 → P (mkI k0, s0)))) (fun q => 301 - q.1.toNatClampNeg) ?_ _ ⟨0, u5, _, by omega, rfl, Or.inr ⟨B0, 0, k0, v0, st0, bh0, 0, B0_ok, hB0, by decide, by omega, t0, r0, fun K' P _ hn s0 h0 => hn s0 h0⟩⟩
  rintro _ R ⟨i, sT', sD', hi, rfl, hor⟩ hR
  unfold F_X7_readInto_25
  dsimp only
  rcases hor with ⟨f, hf, hF, hM⟩ | ⟨B, tm, k, v, st, bh, p, hO, hB, htm, his, t1, r1, hM⟩
  · have fin : J_X7_readInto_109 sT' sD' (nI i) K := by
      unfold J_X7_readInto_109
      rw [hF.2]
      exact ⟨fun _ => bad f sT' sD' hf hF.1 (fun K' hk => rd_start hT t0 (fun s0 h0 P hP => hM K' P hP hk s0 h0)), fun z => absurd (nI_pos' (by omega)) z⟩
    refine ⟨fun _ => fin, fun _ => ⟨fun _ => fin, fun _ => ⟨fun _ => fin, fun z => ?_⟩⟩⟩
    rw [hF.2] at z
    exact absurd (nI_pos' (by omega)) z
  · have hk8 := t1.k8
    have hN := hO.1
    have hs1 := t1.2.1
    have hb1 := t1.2.2.1
    have fin : k = 1 → J_X7_readInto_109 sT' sD' (nI i) K := by
      intro e1
      unfold J_X7_readInto_109
      rw [r1.2.2.2.2.2.2]
      refine ⟨fun z => absurd z (by decide), fun _ => ok B i sT' sD' hO hB hi r1.1 (fun K' hk => rd_start hT t0 (fun s0 h0 P hP => hM K' P hP (fun s hs => hP _ ?_) s0 h0))⟩
      unfold F_X10_readAll_47
      dsimp only
      rw [mkI_0]
      exact ⟨fun _ => hk s tm hs.2.1 hs.2.2.1, fun z => absurd e1 z⟩
    have e1 : nI k = (1 : Int32) ↔ k = 1 := nI_eq (b := 1) (by omega) (by decide)
    have e2 : nI k = (2 : Int32) ↔ k = 2 := nI_eq (b := 2) (by omega) (by decide)
    have e3 : nI k = (3 : Int32) ↔ k = 3 := nI_eq (b := 3) (by omega) (by decide)
    rw [show (300 : Int32) = nI 300 from rfl, nI_leI (by decide) (by omega), r1.2.2.1, e1, r1.2.2.2.2.2.2, e2, hB.1, nI_z (by omega)]
    refine ⟨fun z => fin (t1.end1 (by omega)), fun _ => ⟨fin, fun n1 => ⟨fun z => absurd z (by decide), fun _ => ?_⟩⟩⟩
    have l1 := t1.lt n1
    have flt : ¬ (k = 2 ∧ bN B = 0) → ¬ (k = 3 ∧ bN B < 8) → R (nI i + 1, us sT' 7 (sT' 2 0), sD') := by
      intro h2 h3
      rw [nI_1, r1.2.1]
      refine hR _ ⟨i + 1, _, sD', by omega, rfl, Or.inl ⟨st, by omega, ⟨r1.1.fr (us_n (by decide)) (us_n (by decide)), by rw [us_s]⟩, fun K' P hP hk s0 h0 => hM K' P hP (fun s hs => hP _ (rd_fault hO hs n1 h2 h3 (hk s hs.2.2.1))) s0 h0⟩⟩ ?_
      dsimp only; rw [nI_clamp (by omega), nI_clamp (by omega)]; omega
    have j70 : ¬ (k = 2 ∧ bN B = 0) → J_X7_readInto_70 sT' sD' (nI i) R := by
      intro h2
      unfold J_X7_readInto_70
      rw [r1.2.2.1, e3, hB.1, show (8 : Int32) = nI 8 from rfl, nI_leI (by decide) (by omega)]
      refine ⟨fun c3 => ⟨fun c8 => ?_, fun c8 => ?_⟩, fun c3 => ?_⟩
      · rintro _ rfl _ rfl
        exact flt h2 (fun z => by omega)
      · subst c3
        refine sp_readCall (sS := sS) (sL := sL) (it := i) hO hB (by omega) r1 hb1 (fun f sT2 sB2 hf hF hM2 => ?_) (fun B2 k2 v2 st2 bh2 p2 sT2 sB2 hO2 hB2 n2 hp2 tt rr hM2 => ?_)
        · rintro _ rfl
          rw [nI_1]
          refine hR _ ⟨i + 1, sT2, sB2, by omega, rfl, Or.inl ⟨f, hf, hF, fun K' P hP hk s0 h0 => hM K' P hP (fun s hs => hP _ ?_) s0 h0⟩⟩ ?_
          · unfold F_X10_readAll_47
            dsimp only
            rw [mkI_0, mkI_1]
            refine ⟨fun z => by omega, fun _ => ⟨fun z => by omega, fun _ => ?_⟩⟩
            unfold J_X10_readAll_63
            rw [mkI_2, hs.2.1.1, show (8 : Int32) = nI 8 from rfl, nI_leI (by decide) (by omega)]
            refine ⟨fun _ => ⟨fun z => absurd z c8, fun _ => ?_⟩, fun z => absurd rfl z⟩
            unfold J_X10_readAll_77 J_X10_readAll_82
            rw [mkI_1]
            refine ⟨fun z => absurd z (by decide), fun _ => ⟨fun z => by omega, fun _ => hM2 _ (fun s2 g1 g2 => ⟨fun _ => ?_, fun z => absurd rfl z⟩) s (hs.mp (by omega))⟩⟩
            rw [g2]; exact hk s2 g1
          · dsimp only; rw [nI_clamp (by omega), nI_clamp (by omega)]; omega
        · rintro _ rfl
          rw [nI_1]
          have qq := tt.1
          refine hR _ ⟨i + 1, sT2, sB2, by omega, rfl, Or.inr ⟨B2, tm, k2, v2, st2, bh2, p2, hO2, hB2, htm, by omega, tt, rr, fun K' P hP hn s0 h0 => hM K' P hP (fun s hs => hP _ ?_) s0 h0⟩⟩ ?_
          · unfold F_X10_readAll_47
            dsimp only
            rw [mkI_0, mkI_1]
            refine ⟨fun z => by omega, fun _ => ⟨fun z => by omega, fun _ => ?_⟩⟩
            unfold J_X10_readAll_63
            rw [mkI_2, hs.2.1.1, show (8 : Int32) = nI 8 from rfl, nI_leI (by decide) (by omega)]
            refine ⟨fun _ => ⟨fun z => absurd z c8, fun _ => ?_⟩, fun z => absurd rfl z⟩
            unfold J_X10_readAll_77 J_X10_readAll_82
            rw [mkI_1]
            exact ⟨fun z => absurd z (by decide), fun _ => ⟨fun z => by omega, fun _ => hM2 _ (fun s2 g1 => ⟨fun z => absurd z (by decide), fun _ => rd_114 g1 tt hn⟩) s (hs.mp (by omega))⟩⟩
          · dsimp only; rw [nI_clamp (by omega), nI_clamp (by omega)]; omega
      · rintro _ rfl _ rfl
        exact flt h2 (fun z => c3 z.1)
    refine ⟨fun c2 => ⟨fun cN => ?_, fun cN => j70 (fun z => cN z.2)⟩, fun c2 => j70 (fun z => c2 z.1)⟩
    subst c2
    refine sp_readAct (sS := sS) (sL := sL) (it := i) hO hB cN htm r1 hb1 (fun f sT2 sB2 hf hF hM2 => ?_) (fun B2 tm2 k2 v2 st2 bh2 p2 sT2 sB2 hO2 hB2 n2 htm2 hp2 tt rr hM2 => ?_)
    · rintro _ rfl
      rw [nI_1]
      refine hR _ ⟨i + 1, sT2, sB2, by omega, rfl, Or.inl ⟨f, hf, hF, fun K' P hP hk s0 h0 => hM K' P hP (fun s hs => hP _ ?_) s0 h0⟩⟩ ?_
      · unfold F_X10_readAll_47
        dsimp only
        rw [mkI_0, mkI_1, hs.2.1.1, nI_z (by omega)]
        refine ⟨fun z => by omega, fun _ => ⟨fun _ => ⟨fun _ => ?_, fun z => absurd cN z⟩, fun z => absurd rfl z⟩⟩
        unfold J_X10_readAll_77 J_X10_readAll_82
        rw [mkI_1]
        refine ⟨fun z => absurd z (by decide), fun _ => ⟨fun _ => hM2 _ (fun s2 g1 g2 => ⟨fun _ => ?_, fun z => absurd rfl z⟩) s (hs.mp (by omega)), fun z => absurd rfl z⟩⟩
        rw [g2]; exact hk s2 g1
      · dsimp only; rw [nI_clamp (by omega), nI_clamp (by omega)]; omega
    · rintro _ rfl
      rw [nI_1]
      have qq := tt.1
      refine hR _ ⟨i + 1, sT2, sB2, by omega, rfl, Or.inr ⟨B2, tm2, k2, v2, st2, bh2, p2, hO2, hB2, htm2, by omega, tt, rr, fun K' P hP hn s0 h0 => hM K' P hP (fun s hs => hP _ ?_) s0 h0⟩⟩ ?_
      · unfold F_X10_readAll_47
        dsimp only
        rw [mkI_0, mkI_1, hs.2.1.1, nI_z (by omega)]
        refine ⟨fun z => by omega, fun _ => ⟨fun _ => ⟨fun _ => ?_, fun z => absurd cN z⟩, fun z => absurd rfl z⟩⟩
        unfold J_X10_readAll_77 J_X10_readAll_82
        rw [mkI_1]
        exact ⟨fun z => absurd z (by decide), fun _ => ⟨fun _ => hM2 _ (fun s2 g1 => ⟨fun z => absurd z (by decide), fun _ => rd_114 g1 tt hn⟩) s (hs.mp (by omega)), fun z => absurd rfl z⟩⟩
      · dsimp only; rw [nI_clamp (by omega), nI_clamp (by omega)]; omega
end RALL
