/-! ===== reading: a call ===== -/
/-- a call more, without arcs -/
def addB (B : BK) (a b : Nat) : BK := (bN B + 1, bp B, up (bf B) (bN B) a, up (bt B) (bN B) b, up (ba B) (bN B) 0)
theorem dg_0 (i : Nat) : dg 0 i = 0 := by unfold dg; rw [Nat.zero_div]
theorem addB_ok {B : BK} {a b : Nat} (hO : OKb B) (hN : bN B < 8) (ha : a < 4) (hb : b < 4) : OKb (addB B a b) := by
  refine ⟨hN, hO.2.1, fun c hc => ?_⟩
  have hc' : c < bN B + 1 := hc
  show up (bf B) (bN B) a c < 4 ∧ up (bt B) (bN B) b c < 4 ∧ GW (up (ba B) (bN B) 0 c) ∧ ∀ x y, x < 3 → y < 3 → dg (up (ba B) (bN B) 0 c) (3 * x + y) ≠ 0 → x < bp B (up (bf B) (bN B) a c) ∧ y < bp B (up (bt B) (bN B) b c)
  by_cases e : c = bN B
  · subst e
    rw [up_s, up_s, up_s]
    exact ⟨ha, hb, ⟨by decide, fun i _ => by rw [dg_0]; decide⟩, fun x y _ _ z => absurd (dg_0 _) z⟩
  · rw [up_n e, up_n e, up_n e]
    exact hO.2.2 c (by omega)
theorem sp_addB {sB : St} {B : BK} {a b : Nat} (hN : bN B < 8) (hB : CB sB B) {K : St → Prop} (h : ∀ s', CB s' (addB B a b) → K s') : wp_X1_add sB (nI a) (nI b) K := by
  unfold wp_X1_add
  rw [hB.1, show (8 : Int32) = nI 8 from rfl, nI_leI (by decide) (by omega)]
  have iv : vp_in (nI (bN B)) 8 := vp_in_nI hN (by decide)
  refine ⟨fun z => by omega, fun _ => ⟨iv, ?_⟩⟩
  rintro _ rfl
  rw [ua_n (j := 4) (by decide), hB.1]
  refine ⟨iv, ?_⟩
  rintro _ rfl
  rw [ua_n (j := 4) (by decide), ua_n (j := 4) (by decide), hB.1]
  refine ⟨iv, ?_⟩
  rintro _ rfl _ rfl
  rw [ua_n (j := 4) (by decide), ua_n (j := 4) (by decide), ua_n (j := 4) (by decide), hB.1, nI_1]
  refine h _ ⟨by rw [us_s]; rfl, fun x hx => ?_, fun c hc => ?_⟩
  · rw [us_n (by decide), ua_n (by decide), ua_n (by decide), ua_n (by decide)]
    exact hB.2.1 x hx
  · have hc' : c < bN B + 1 := hc
    have cl : (nI (bN B)).toNatClampNeg = bN B := nI_clamp (by omega)
    rw [us_n (j := 1) (by decide), ua_n (j := 1) (by decide), ua_n (j := 1) (by decide), ua_s, us_n (j := 2) (by decide), ua_n (j := 2) (by decide), ua_s, ua_n (j := 2) (by decide), us_n (j := 3) (by decide), ua_s, ua_n (j := 3) (by decide), ua_n (j := 3) (by decide), cl]
    show upd (sB 1) (bN B) (nI a) c = nI (up (bf B) (bN B) a c) ∧ upd (sB 2) (bN B) (nI b) c = nI (up (bt B) (bN B) b c) ∧ upd (sB 3) (bN B) 0 c = nI (up (ba B) (bN B) 0 c)
    by_cases e : c = bN B
    · subst e
      rw [pk_us, pk_us, pk_us, up_s, up_s, up_s]
      exact ⟨rfl, rfl, rfl⟩
    · rw [pk_un e, pk_un e, pk_un e, up_n e, up_n e, up_n e]
      exact hB.2.2 c (by omega)
theorem sp_52 {s : St} {N : Nat} (hN : N < 8) {E : St → Prop} (h : ∀ s', (∀ k, k < 9 → s' 20 (9 * N + k) = 0) → (∀ j, j < 9 * N → s' 20 j = s 20 j) → (∀ q, q ≠ 20 → s' q = s q) → E s') : Lp (F_X10_callItem_52 (nI N) E) ((0 : Int32), s) := by
  refine lp_ind (fun q => ∃ m s', m ≤ 9 ∧ q = (nI m, s') ∧ (∀ k, k < m → s' 20 (9 * N + k) = 0) ∧ (∀ j, j < 9 * N → s' 20 j = s 20 j) ∧ ∀ q, q ≠ 20 → s' q = s q) (fun q => 9 - q.1.toNatClampNeg) ?_ _ ⟨0, s, by omega, rfl, fun k hk => absurd hk (by omega), fun _ _ => rfl, fun _ _ => rfl⟩
  rintro _ R ⟨m, s', hm, rfl, h1, h2, h3⟩ hR
  unfold F_X10_callItem_52
  dsimp only
  rw [show (9 : Int32) * nI N + nI m = nI (9 * N + m) by rw [← nI_add, ← pk_mul]; rfl, show (9 : Int32) = nI 9 from rfl, nI_leI (by decide) (by omega)]
  refine ⟨fun c => ?_, fun c => ⟨vp_in_nI (by omega) (by decide), ?_⟩⟩
  · have : m = 9 := by omega
    subst this
    exact h s' h1 h2 h3
  · rintro _ rfl _ rfl
    rw [nI_1]
    have cl : (nI (9 * N + m)).toNatClampNeg = 9 * N + m := nI_clamp (by omega)
    refine hR _ ⟨m + 1, _, by omega, rfl, fun k hk => ?_, fun j hj => ?_, fun q hq => by rw [ua_n hq]; exact h3 q hq⟩ ?_
    · rw [ua_s, cl]
      by_cases e : k = m
      · subst e; rw [pk_us]
      · rw [pk_un (by omega)]; exact h1 k (by omega)
    · rw [ua_s, cl, pk_un (by omega)]; exact h2 j hj
    · dsimp only; rw [nI_clamp (by omega), nI_clamp (by omega)]; omega
section CALLR
variable {sS : St} {sL : Int64} {n : Nat} {tx : Nat → Nat} {B : BK} {tm it v st bh : Nat}
set_option maxHeartbeats 2000000 in
theorem sp_readCall {sT sB : St} (hO : OKb B) (hB : CB sB B) (hN8 : bN B < 8) (hR : RC n tx tm 3 v st bh sT) (hb : bh ≤ n) {K : (St × St) → Prop}
    (bad : ∀ f sT' sB', f ≤ n → FLT n tx f sT' → (∀ K'' : Int32 → St → Prop, (∀ s, FRD sS s → s 13 0 = nI f → K'' 0 s) → ∀ s0, MP sS n tx B tm it bh s0 → wp_X10_callItem s0 sL K'') → K (sT', sB'))
    (ok : ∀ B' k' v' st' bh' p' sT' sB', OKb B' → CB sB' B' → bN B' = bN B + 1 → bh < p' → TK n tx p' k' v' st' bh' → RC n tx tm k' v' st' bh' sT' → (∀ K'' : Int32 → St → Prop, (∀ s, MP sS n tx B' tm it p' s → K'' 1 s) → ∀ s0, MP sS n tx B tm it bh s0 → wp_X10_callItem s0 sL K'') → K (sT', sB')) : wp_X7_readCall sT sB K := by
  unfold wp_X7_readCall
  have h300 := hR.1.1
  refine hR.adv hb (fun u1 k1 a st1 bh1 t1 r1 => ?_)
  have hk1 := t1.k8
  have e4 : nI k1 = (4 : Int32) ↔ k1 = 4 := nI_eq (b := 4) (by omega) (by decide)
  rw [r1.2.2.2.1, r1.2.2.1, e4]
  rintro _ rfl
  refine ⟨fun c1 => ?_, fun c1 => ?_⟩
  rotate_left
  · unfold J_X7_readCall_23
    refine standR r1 (b := false) (fun z => absurd z (by decide)) (fun _ s' hs => ⟨fun _ => bad st1 s' sB (by have := t1.2.1; have := t1.2.2.1; omega) hs (fun K'' hk s0 h0 => ?_), fun z => absurd rfl z⟩)
    unfold wp_X10_callItem
    refine tokR h0 t1 (fun s2 h2 => ?_)
    rw [mkI_3]
    exact ⟨fun e => absurd e c1, fun _ => hk s2 h2.2.2.1 h2.2.2.2.1⟩
  have ha4 := t1.v4 c1
  unfold J_X7_readCall_23
  refine standR r1 (b := true) (fun _ => ⟨fun z => absurd z (by decide), fun _ => ?_⟩) (fun z => absurd z (by decide))
  refine r1.adv t1.2.2.1 (fun u6 k2 b st2 bh2 t2 r2 => ?_)
  have hk2 := t2.k8
  have e4' : nI k2 = (4 : Int32) ↔ k2 = 4 := nI_eq (b := 4) (by omega) (by decide)
  rw [r2.2.2.2.1, r2.2.2.1, e4']
  rintro _ rfl
  refine ⟨fun c2 => ?_, fun c2 => ?_⟩
  rotate_left
  · unfold J_X7_readCall_53
    refine standR r2 (b := false) (fun z => absurd z (by decide)) (fun _ s' hs => ⟨fun _ => bad st2 s' sB (by have := t2.2.1; have := t2.2.2.1; omega) hs (fun K'' hk s0 h0 => ?_), fun z => absurd rfl z⟩)
    unfold wp_X10_callItem
    refine tokR h0 t1 (fun s2 h2 => ?_)
    rw [mkI_3]
    refine ⟨fun _ => ?_, fun z => absurd c1 z⟩
    rintro _ rfl
    refine tokR (h2.mp (by omega)) t2 (fun s3 h3 => ?_)
    rw [mkI_3]
    exact ⟨fun e => absurd e c2, fun _ => hk s3 h3.2.2.1 h3.2.2.2.1⟩
  have hb4 := t2.v4 c2
  unfold J_X7_readCall_53
  refine standR r2 (b := true) (fun _ => ⟨fun z => absurd z (by decide), fun _ => ?_⟩) (fun z => absurd z (by decide))
  refine r2.adv t2.2.2.1 (fun u11 k3 v3 st3 bh3 t3 r3 => ?_)
  rw [hB.1]
  rintro _ rfl
  refine sp_addB hN8 hB (fun u13 hB1 => ?_)
  have hO1 := addB_ok hO hN8 ha4 hb4
  obtain ⟨B1, eB1⟩ : ∃ B1, B1 = addB B a b := ⟨_, rfl⟩
  have n1 : bN B1 = bN B + 1 := by rw [eB1]; rfl
  have f1 : bf B1 (bN B) = a := by rw [eB1]; exact up_s
  have g1 : bt B1 (bN B) = b := by rw [eB1]; exact up_s
  have mc : ∀ K'' : Int32 → St → Prop, (∀ u16, MS sS n tx B1 tm it k3 v3 st3 bh3 u16 → Lp (F_X10_callItem_94 sL (nI a) (nI b) (nI (bN B)) K'' (EC K'')) (mkI k3, u16)) → ∀ s0, MP sS n tx B tm it bh s0 → wp_X10_callItem s0 sL K'' := by
    intro K'' hk s0 h0
    unfold wp_X10_callItem
    refine tokR h0 t1 (fun s2 h2 => ?_)
    rw [mkI_3, h2.2.2.2.2.2.1 (Or.inl c1)]
    refine ⟨fun _ => ?_, fun z => absurd c1 z⟩
    rintro _ rfl
    refine tokR (h2.mp (by omega)) t2 (fun s3 h3 => ?_)
    rw [mkI_3, h3.2.2.2.2.2.1 (Or.inl c2), h3.2.1.1]
    refine ⟨fun _ => ?_, fun z => absurd c2 z⟩
    have iv : vp_in (nI (bN B)) 8 := vp_in_nI hN8 (by decide)
    rintro _ rfl _ rfl
    refine ⟨iv, ?_⟩
    rintro _ rfl
    refine ⟨iv, ?_⟩
    rintro _ rfl
    refine sp_52 hN8 (fun s4 a1 a2 a3 => ?_)
    rintro _ rfl
    have cl : (nI (bN B)).toNatClampNeg = bN B := nI_clamp (by omega)
    have e17 : s4 17 0 = nI (bN B) := by rw [a3 17 (by decide), ua_n (by decide), ua_n (by decide)]; exact h3.2.1.1
    rw [e17, nI_1]
    obtain ⟨d1, d2, d3, d4⟩ := h3.2.1
    refine tokR (p := bh2) ⟨?_, ⟨?_, fun x hx => ?_, fun c hc => ?_, ?_⟩, fun q hq => ?_, ?_⟩ t3 hk
    · exact h3.1.fr (by rw [us_n (by decide), a3 0 (by decide), ua_n (by decide), ua_n (by decide)]) (by rw [us_n (by decide), a3 1 (by decide), ua_n (by decide), ua_n (by decide)])
    · rw [us_s, n1]
    · rw [us_n (by decide), us_n (by decide), a3 15 (by decide), a3 16 (by decide), ua_n (by decide), ua_n (by decide), ua_n (by decide), ua_n (by decide), eB1]
      exact d2 x hx
    · rw [n1] at hc
      rw [us_n (j := 18) (by decide), us_n (j := 19) (by decide), us_n (j := 20) (by decide), a3 18 (by decide), a3 19 (by decide), ua_n (j := 18) (by decide), ua_s, ua_s, ua_n (j := 19) (by decide), cl, eB1]
      show upd (s3 18) (bN B) (nI a) c = nI (up (bf B) (bN B) a c) ∧ upd (s3 19) (bN B) (nI b) c = nI (up (bt B) (bN B) b c) ∧ ∀ k, k < 9 → s4 20 (9 * c + k) = nI (dg (up (ba B) (bN B) 0 c) k)
      by_cases e : c = bN B
      · subst e
        rw [pk_us, pk_us, up_s, up_s, up_s]
        exact ⟨rfl, rfl, fun k hk => by rw [a1 k hk, dg_0]; rfl⟩
      · rw [pk_un e, pk_un e, up_n e, up_n e, up_n e]
        obtain ⟨x1, x2, x3⟩ := d3 c (by omega)
        refine ⟨x1, x2, fun k hk => ?_⟩
        rw [a2 _ (by omega), ua_n (by decide), ua_n (by decide)]
        exact x3 k hk
    · rw [us_n (by decide), a3 21 (by decide), ua_n (by decide), ua_n (by decide)]; exact d4
    · rw [us_n (by omega), a3 q (by omega), ua_n (by omega), ua_n (by omega)]; exact h3.2.2.1 q hq
    · rw [us_n (by decide), a3 12 (by decide), ua_n (by decide), ua_n (by decide)]; exact h3.2.2.2.2.1 (by omega)
  rw [← eB1] at hO1 hB1
  clear eB1
  have l1 := t1.lt (by omega)
  have l2 := t2.lt (by omega)
  have q1 := t1.1
  have q2 := t2.1
  have q3 := t3.1
  refine lp_ind (fun q => ∃ m sT' sB', m ≤ 300 ∧ q = (nI m, sT', sB') ∧ ((∃ f, f ≤ n ∧ FLT n tx f sT' ∧ ∀ (K'' : Int32 → St → Prop) (P2 : Int32 × St → Prop), (∀ q, F_X10_callItem_94 sL (nI a) (nI b) (nI (bN B)) K'' (EC K'') P2 q → P2 q) → (∀ s, FRD sS s → s 13 0 = nI f → K'' 0 s) → ∀ s0, MS sS n tx B1 tm it k3 v3 st3 bh3 s0 → P2 (mkI k3, s0)) ∨ (∃ B' k' v' st' bh' p', OKb B' ∧ CB sB' B' ∧ bN B' = bN B + 1 ∧ bf B' (bN B) = a ∧ bt B' (bN B) = b ∧ m < st' ∧ bh < p' ∧ TK n tx p' k' v' st' bh' ∧ RC n tx tm k' v' st' bh' sT' ∧ ∀ (K'' : Int32 → St → Prop) (P2 : Int32 × St → Prop), (∀ q, F_X10_callItem_94 sL (nI a) (nI b) (nI (bN B)) K'' (EC K'') P2 q → P2 q) → (∀ s, MS sS n tx B' tm it k' v' st' bh' s → P2 (mkI k', s)) → ∀ s0, MS sS n tx B1 tm it k3 v3 st3 bh3 s0 → P2 (mkI k3, s0)))) (fun q => 301 - q.1.toNatClampNeg) ?_ _ ⟨0, u11, u13, by omega, rfl, Or.inr ⟨B1, k3, v3, st3, bh3, bh2, hO1, hB1, n1, f1, g1, by omega, by omega, t3, r3, fun K'' P2 _ hn s0 h0 => hn s0 h0⟩⟩
  rintro _ R ⟨m, sT', sB', hm, rfl, hor⟩ hR'
  unfold F_X7_readCall_79
  dsimp only
  rcases hor with ⟨f, hf, hF, hM⟩ | ⟨B', k', v', st', bh', p', hO', hB', n', ff, gg, hms, hbp, t', r', hM⟩
  · have fin : ((0 ≤ sT' 7 0 → (K (sT', sB'))) ∧ (¬ 0 ≤ sT' 7 0 → (wp_X7_advance sT' (fun u22 => K (u22, sB'))))) := by
      rw [hF.2]
      refine ⟨fun _ => bad f sT' sB' hf hF (fun K'' hk => mc K'' (fun u16 h16 P2 hP => hM K'' P2 hP hk u16 h16)), fun z => absurd (nI_pos' (by omega)) z⟩
    refine ⟨fun _ => fin, fun _ => ⟨fun _ => fin, fun _ => ⟨fun _ => fin, fun z => ?_⟩⟩⟩
    rw [hF.2] at z
    exact absurd (nI_pos' (by omega)) z
  · have hk' := t'.k8
    have hs' := t'.2.1
    have hb' := t'.2.2.1
    have e8 : nI k' = (8 : Int32) ↔ k' = 8 := nI_eq (b := 8) (by omega) (by decide)
    rw [show (300 : Int32) = nI 300 from rfl, nI_leI (by decide) (by omega), r'.2.2.1, e8, r'.2.2.2.2.2.2]
    refine ⟨fun z => by omega, fun _ => ⟨fun c8 => ?_, fun c8 => ⟨fun z => absurd z (by decide), fun _ => ?_⟩⟩⟩
    · refine ⟨fun z => absurd z (by decide), fun _ => ?_⟩
      refine r'.adv hb' (fun u22 k4 v4 st4 bh4 t4 r4 => ?_)
      have l4 := t'.lt (by omega)
      have q4 := t'.1
      refine ok B' k4 v4 st4 bh4 bh' u22 sB' hO' hB' n' (by omega) t4 r4 (fun K'' hk => mc K'' (fun u16 h16 P2 hP => hM K'' P2 hP (fun s hs => hP _ ?_) u16 h16))
      unfold F_X10_callItem_94
      dsimp only
      rw [mkI_4]
      refine ⟨fun z => by omega, fun _ => ?_⟩
      unfold EC
      dsimp only
      obtain ⟨-, -, -, w8⟩ := hs.2.2.2.2.2
      rw [mkI_5, w8 c8]
      exact ⟨fun _ => ⟨fun _ => hk s (hs.mp (by omega)), fun z => absurd rfl z⟩, fun z => absurd (by omega) z⟩
    · have hst' : st' ≤ n := by omega
      refine sp_readArc (sS := sS) (sL := sL) (it := it) (c := bN B) hO' hB' (by omega) r' t' c8 (fun f sT2 sB2 hf hF hM2 => ?_) (fun B2 k2' v2' st2' bh2' p2' sT2 sB2 hO2 hB2 n2 f2 g2 hp2 tt rr hM2 => ?_)
      · rintro _ rfl
        rw [nI_1]
        rw [ff, gg] at hM2
        refine hR' _ ⟨m + 1, sT2, sB2, by omega, rfl, Or.inl ⟨f, hf, hF, fun K'' P2 hP hk s0 h0 => hM K'' P2 hP (fun s hs => hM2 K'' P2 hP hk s hs) s0 h0⟩⟩ ?_
        dsimp only; rw [nI_clamp (by omega), nI_clamp (by omega)]; omega
      · rintro _ rfl
        rw [nI_1]
        rw [ff, gg] at hM2
        have qq := tt.1
        have q4 := t'.1
        refine hR' _ ⟨m + 1, sT2, sB2, by omega, rfl, Or.inr ⟨B2, k2', v2', st2', bh2', p2', hO2, hB2, by omega, by rw [f2]; exact ff, by rw [g2]; exact gg, by omega, by omega, tt, rr, fun K'' P2 hP hn s0 h0 => hM K'' P2 hP (fun s hs => hM2 K'' P2 hP hn s hs) s0 h0⟩⟩ ?_
        dsimp only; rw [nI_clamp (by omega), nI_clamp (by omega)]; omega
end CALLR
