/-! ===== reading: an arc ===== -/
def EC (K'' : Int32 → St → Prop) (q : Int32 × St) : Prop := ((q.1 = (5 : Int32) → (((q.2 14 0 = (59 : Int32) → (K'' (1 : Int32) q.2)) ∧ (¬ q.2 14 0 = (59 : Int32) → (K'' (0 : Int32) q.2))))) ∧ (¬ q.1 = (5 : Int32) → (K'' (0 : Int32) q.2)))
theorem putB_R {s : St} {B : BK} {tm it c i v : Nat} (h : RMr s B tm it) (hN : bN B ≤ 8) (hc : c < bN B) (hi : i < 9) (hv : v < 4) : RMr (ua s 20 (nI (9 * c + i)) (nI v)) (putB B c i v) tm it := by
  obtain ⟨h1, h2, h3, h4⟩ := h
  refine ⟨by rw [ua_n (by decide)]; exact h1, fun x hx => by rw [ua_n (by decide), ua_n (by decide)]; exact h2 x hx, fun d hd => ?_, by rw [ua_n (by decide)]; exact h4⟩
  obtain ⟨g1, g2, g3⟩ := h3 d hd
  rw [ua_n (by decide), ua_n (by decide)]
  refine ⟨g1, g2, fun k hk => ?_⟩
  have hd8 : d < bN B := hd
  rw [ua_s, nI_clamp (by omega)]
  show upd (s 20) (9 * c + i) (nI v) (9 * d + k) = nI (dg (up (ba B) c (sd (ba B c) i v) d) k)
  by_cases e : d = c
  · subst e
    rw [up_s, sd_dg hv k hk]
    by_cases e2 : k = i
    · subst e2; rw [pk_us, if_pos rfl]
    · rw [pk_un (by omega), if_neg e2]; exact g3 k hk
  · rw [pk_un (by omega), up_n e]; exact g3 k hk
section ARCR
variable {sS : St} {sL : Int64} {n : Nat} {tx : Nat → Nat} {B : BK} {tm it k v st bh c p : Nat}
theorem notSemi {s : St} (h : MS sS n tx B tm it k v st bh s) (hT : TK n tx p k v st bh) (h8 : k ≠ 8) {K'' : Int32 → St → Prop} (hK : K'' 0 s) : EC K'' (mkI k, s) := by
  unfold EC
  dsimp only
  have hk8 := hT.k8
  obtain ⟨-, w6, w7, -⟩ := h.2.2.2.2.2
  rw [mkI_5]
  refine ⟨fun e => ?_, fun _ => hK⟩
  by_cases e6 : k = 6
  · rw [w6 e6]; exact ⟨fun z => absurd z (by decide), fun _ => hK⟩
  · rw [w7 (by omega)]; exact ⟨fun z => absurd z (by decide), fun _ => hK⟩
set_option maxHeartbeats 2000000 in
theorem sp_readArc {sT sB : St} (hO : OKb B) (hB : CB sB B) (hc : c < bN B) (hR : RC n tx tm k v st bh sT) (hT : TK n tx p k v st bh) (h8 : k ≠ 8) {K : (St × St) → Prop}
    (bad : ∀ f sT' sB', f ≤ n → FLT n tx f sT' → (∀ (K'' : Int32 → St → Prop) (P2 : Int32 × St → Prop), (∀ q, F_X10_callItem_94 sL (nI (bf B c)) (nI (bt B c)) (nI c) K'' (EC K'') P2 q → P2 q) → (∀ s, FRD sS s → s 13 0 = nI f → K'' 0 s) → ∀ s0, MS sS n tx B tm it k v st bh s0 → P2 (mkI k, s0)) → K (sT', sB'))
    (ok : ∀ B' k' v' st' bh' p' sT' sB', OKb B' → CB sB' B' → bN B' = bN B → bf B' = bf B → bt B' = bt B → st < p' → TK n tx p' k' v' st' bh' → RC n tx tm k' v' st' bh' sT' → (∀ (K'' : Int32 → St → Prop) (P2 : Int32 × St → Prop), (∀ q, F_X10_callItem_94 sL (nI (bf B c)) (nI (bt B c)) (nI c) K'' (EC K'') P2 q → P2 q) → (∀ s, MS sS n tx B' tm it k' v' st' bh' s → P2 (mkI k', s)) → ∀ s0, MS sS n tx B tm it k v st bh s0 → P2 (mkI k, s0)) → K (sT', sB')) : wp_X7_readArc sT sB (nI c) K := by
  unfold wp_X7_readArc
  have h300 := hR.1.1
  have hN := hO.1
  have hk8 := hT.k8
  obtain ⟨f4, t4, gw, -⟩ := hO.2.2 c hc
  obtain ⟨ef, et, ea⟩ := hB.2.2 c hc
  have pf := hO.2.1 _ f4
  have pt := hO.2.1 _ t4
  have i8 : vp_in (nI c) 8 := vp_in_nI (by omega) (by decide)
  have iF : vp_in (nI (bf B c)) 4 := vp_in_nI f4 (by decide)
  have iT : vp_in (nI (bt B c)) 4 := vp_in_nI t4 (by decide)
  have cc : (nI c).toNatClampNeg = c := nI_clamp (by omega)
  have cF : (nI (bf B c)).toNatClampNeg = bf B c := nI_clamp (by omega)
  have cT : (nI (bt B c)).toNatClampNeg = bt B c := nI_clamp (by omega)
  rw [hR.2.2.2.1, hR.2.2.1, cc, ef, cF, hB.2.1 _ f4]
  rintro _ rfl
  have bad1 : ¬ (k = 5 ∧ v < bp B (bf B c)) → J_X7_readArc_33 sT sB (nI c) (nI v) K := by
    intro hn
    unfold J_X7_readArc_33 J_X7_readArc_34
    refine standR hR (b := false) (fun z => absurd z (by decide)) (fun _ s' hs => ⟨fun _ => bad st s' sB (by have := hT.2.1; have := hT.2.2.1; omega) hs (fun K'' P2 hP hk s0 h0 => hP _ ?_), fun z => absurd rfl z⟩)
    unfold F_X10_callItem_94
    dsimp only
    rw [mkI_4]
    refine ⟨fun e => ?_, fun e => notSemi h0 hT h8 (hk s0 h0.2.2.1 h0.2.2.2.1)⟩
    have hv5 := hT.v5 e
    rw [h0.2.2.2.2.2.1 (Or.inr e)]
    rintro _ rfl
    rw [cF, (h0.2.1.2.1 _ f4).1, nI_leI (by omega) (by omega)]
    exact ⟨iF, fun _ => hk s0 h0.2.2.1 h0.2.2.2.1, fun z => absurd ⟨e, by omega⟩ hn⟩
  have e5 : nI k = (5 : Int32) ↔ k = 5 := nI_eq (b := 5) (by omega) (by decide)
  rw [e5]
  refine ⟨fun c1 => ⟨i8, iF, ?_⟩, fun c1 => bad1 (fun z => c1 z.1)⟩
  have hv5 := hT.v5 c1
  rw [nI_leI (by omega) (by omega)]
  refine ⟨fun c2 => bad1 (fun z => by omega), fun c2 => ?_⟩
  clear bad1
  have hvx : v < bp B (bf B c) := by omega
  unfold J_X7_readArc_34
  refine standR hR (b := true) (fun _ => ⟨fun z => absurd z (by decide), fun _ => ?_⟩) (fun z => absurd z (by decide))
  refine hR.adv hT.2.2.1 (fun u5 k2 v2 st2 bh2 t2 r2 => ?_)
  have hk2 := t2.k8
  have e6 : nI k2 = (6 : Int32) ↔ k2 = 6 := nI_eq (b := 6) (by omega) (by decide)
  have e7 : nI k2 = (7 : Int32) ↔ k2 = 7 := nI_eq (b := 7) (by omega) (by decide)
  have m0 : ∀ (K'' : Int32 → St → Prop) (P2 : Int32 × St → Prop), (∀ q, F_X10_callItem_94 sL (nI (bf B c)) (nI (bt B c)) (nI c) K'' (EC K'') P2 q → P2 q) → (∀ s', MS sS n tx B tm it k2 v2 st2 bh2 s' → ((mkI k2 = (5 : Int32) → (((s' 14 0 = (59 : Int32) → (K'' (0 : Int32) s')) ∧ (¬ s' 14 0 = (59 : Int32) → (((s' 14 0 = (62 : Int32) → (J_X10_callItem_150 s' sL (nI (bt B c)) (nI c) (nI v) (2 : Int32) K'' P2)) ∧ (¬ s' 14 0 = (62 : Int32) → (J_X10_callItem_150 s' sL (nI (bt B c)) (nI c) (nI v) (1 : Int32) K'' P2)))))))) ∧ (¬ mkI k2 = (5 : Int32) → (K'' (0 : Int32) s')))) → ∀ s0, MS sS n tx B tm it k v st bh s0 → P2 (mkI k, s0) := by
    intro K'' P2 hP hk s0 h0
    refine hP _ ?_
    unfold F_X10_callItem_94
    dsimp only
    rw [mkI_4, h0.2.2.2.2.2.1 (Or.inr c1)]
    refine ⟨fun _ => ?_, fun z => absurd c1 z⟩
    rintro _ rfl
    rw [cF, (h0.2.1.2.1 _ f4).1, nI_leI (by omega) (by omega)]
    exact ⟨iF, fun z => absurd z c2, fun _ => tokR (h0.mp (by omega)) t2 hk⟩
  have go : ∀ w : Nat, 1 ≤ w → w ≤ 2 → (k2 = 6 ∨ k2 = 7) → (k2 = 6 → w = 2) → (k2 = 7 → w = 1) → J_X7_readArc_80 u5 sB (nI c) (nI v) (nI w) K := by
    intro w hw1 hw2 hor hw6 hw7
    have m1 : ∀ (K'' : Int32 → St → Prop) (P2 : Int32 × St → Prop), (∀ q, F_X10_callItem_94 sL (nI (bf B c)) (nI (bt B c)) (nI c) K'' (EC K'') P2 q → P2 q) → (∀ s', MP sS n tx B tm it bh2 s' → J_X10_callItem_150 s' sL (nI (bt B c)) (nI c) (nI v) (nI w) K'' P2) → ∀ s0, MS sS n tx B tm it k v st bh s0 → P2 (mkI k, s0) := by
      intro K'' P2 hP hk
      refine m0 K'' P2 hP (fun s' hs => ?_)
      obtain ⟨-, w6, w7, -⟩ := hs.2.2.2.2.2
      rw [mkI_5]
      refine ⟨fun _ => ?_, fun z => absurd (by omega) z⟩
      have hk' := hk s' (hs.mp (by omega))
      rcases hor with q | q
      · rw [w6 q]
        have e := hw6 q
        subst e
        exact ⟨fun z => absurd z (by decide), fun _ => ⟨fun _ => hk', fun z => absurd rfl z⟩⟩
      · rw [w7 q]
        have e := hw7 q
        subst e
        exact ⟨fun z => absurd z (by decide), fun _ => ⟨fun z => absurd z (by decide), fun _ => hk'⟩⟩
    unfold J_X7_readArc_80 J_X7_readArc_85
    refine standR r2 (b := true) (fun _ => ⟨fun z => absurd z (by decide), fun _ => ?_⟩) (fun z => absurd z (by decide))
    refine r2.adv t2.2.2.1 (fun u10 k3 v3 st3 bh3 t3 r3 => ?_)
    have hk3 := t3.k8
    have e5' : nI k3 = (5 : Int32) ↔ k3 = 5 := nI_eq (b := 5) (by omega) (by decide)
    rw [r3.2.2.2.1, r3.2.2.1, cc, et, cT, hB.2.1 _ t4, e5']
    rintro _ rfl
    have lim : v3 < 10 → (nI (bp B (bt B c)) - (1 : Int32) < nI v3 ↔ ¬ v3 < bp B (bt B c)) := by
      intro h10
      rw [ilt, sub1i (by omega), nI_toInt (by omega)]
      omega
    have bad3 : ¬ (k3 = 5 ∧ v3 < bp B (bt B c)) → J_X7_readArc_131 u10 sB (nI c) (nI v) (nI w) (nI v3) K := by
      intro hn
      unfold J_X7_readArc_131 J_X7_readArc_132
      refine standR r3 (b := false) (fun z => absurd z (by decide)) (fun _ s' hs => ⟨fun _ => bad st3 s' sB (by have := t3.2.1; have := t3.2.2.1; omega) hs (fun K'' P2 hP hk => m1 K'' P2 hP (fun s1 h1 => ?_)), fun z => absurd rfl z⟩)
      unfold J_X10_callItem_150
      rw [cT, (h1.2.1.2.1 _ t4).1]
      refine ⟨iT, numR h1 t3 (fun a1 a2 => ?_) (fun _ s2 h2 => ⟨fun _ => hk s2 h2.2.2.1 h2.2.2.2.1, fun z => absurd rfl z⟩)⟩
      have h10 := t3.v5 a1
      rw [lim h10] at a2
      exact absurd ⟨a1, by omega⟩ hn
    refine ⟨fun c3 => ⟨i8, iT, ?_⟩, fun c3 => bad3 (fun z => c3 z.1)⟩
    have h10 := t3.v5 c3
    rw [nI_leI (by omega) (by omega)]
    refine ⟨fun c4 => bad3 (fun z => by omega), fun c4 => ?_⟩
    clear bad3
    have hvy : v3 < bp B (bt B c) := by omega
    have hd := dg_lt (ba B c) (3 * v + v3)
    have hd2 := gw.2 (3 * v + v3) (by omega)
    unfold J_X7_readArc_132
    refine standR r3 (b := true) (fun _ => ⟨fun z => absurd z (by decide), fun _ => ⟨i8, ?_⟩⟩) (fun z => absurd z (by decide))
    rw [cc, ea]
    refine sp_at gw.b31 (by omega) (by omega) ⟨i8, ?_⟩
    obtain ⟨W, eW⟩ : ∃ W, W = if dg (ba B c) (3 * v + v3) < w then w else dg (ba B c) (3 * v + v3) := ⟨_, rfl⟩
    have hW : W ≤ 2 := by rw [eW]; split <;> omega
    rw [nI_mx (by omega) (by omega), ← eW]
    refine sp_with gw.1 (by omega) (by omega) (by omega) ⟨i8, ?_⟩
    rintro _ rfl
    refine r3.adv t3.2.2.1 (fun u18 k4 v4 st4 bh4 t5 r4 => ?_)
    have l1 := hT.lt (by omega)
    have l2 := t2.lt (by omega)
    have l3 := t3.lt (by omega)
    have q2 := t2.1
    have q3 := t3.1
    refine ok (putB B c (3 * v + v3) W) k4 v4 st4 bh4 bh3 u18 _ (putB_ok hO hvx hvy hW hc) (putB_C hB (by omega)) rfl rfl rfl (by omega) t5 r4 (fun K'' P2 hP hn => m1 K'' P2 hP (fun s1 h1 => ?_))
    unfold J_X10_callItem_150
    rw [cT, (h1.2.1.2.1 _ t4).1]
    refine ⟨iT, numR h1 t3 (fun a1 a2 s2 h2 => ⟨fun z => absurd z (by decide), fun _ => ?_⟩) (fun a1 => ?_)⟩
    · rw [h2.2.2.2.2.2.1 (Or.inr c3), ip_ix (p1 := 0) (by omega) (by omega) (by omega)]
      rintro _ rfl
      have ix : vp_in (nI (9 * c + (3 * v + v3))) 72 := vp_in_nI (by omega) (by decide)
      have cx : (nI (9 * c + (3 * v + v3))).toNatClampNeg = 9 * c + (3 * v + v3) := nI_clamp (by omega)
      have e20 := (h2.2.1.2.2.1 c hc).2.2 (3 * v + v3) (by omega)
      rw [cx, e20, nI_leI (by omega) (by omega)]
      have fin : ∀ x : Int32, x = nI W → J_X10_callItem_215 s2 sL (nI (9 * c + (3 * v + v3))) x P2 := by
        intro x ex
        rw [ex]
        unfold J_X10_callItem_215
        refine ⟨ix, ?_⟩
        rintro _ rfl
        refine tokR (p := bh3) ⟨?_, putB_R h2.2.1 hN hc (by omega) (by omega), fun q hq => ?_, ?_⟩ t5 hn
        · exact h2.1.fr (ua_n (by decide)) (ua_n (by decide))
        · rw [ua_n (by omega)]; exact h2.2.2.1 q hq
        · rw [ua_n (by decide)]; exact h2.2.2.2.2.1 (by omega)
      refine ⟨ix, fun c5 => ⟨ix, fin _ ?_⟩, fun c5 => fin _ ?_⟩
      · rw [eW, if_neg (by omega)]
      · rw [eW, if_pos (by omega)]
    · have a2 := a1 c3
      rw [lim h10] at a2
      exact absurd hvy a2
  have jj : ∀ w : Nat, 1 ≤ w → w ≤ 2 → (k2 = 6 → w = 2) → (k2 = 7 → w = 1) → J_X7_readArc_59 u5 sB (nI c) (nI v) (nI w) K := by
    intro w hw1 hw2 hw6 hw7
    unfold J_X7_readArc_59
    rw [r2.2.2.1, e6, e7]
    refine ⟨fun q => go w hw1 hw2 (Or.inl q) hw6 hw7, fun n6 => ⟨fun q => go w hw1 hw2 (Or.inr q) hw6 hw7, fun n7 => ?_⟩⟩
    unfold J_X7_readArc_85
    refine standR r2 (b := false) (fun z => absurd z (by decide)) (fun _ s' hs => ⟨fun _ => bad st2 s' sB (by have := t2.2.1; have := t2.2.2.1; omega) hs (fun K'' P2 hP hk => m0 K'' P2 hP (fun s1 h1 => ?_)), fun z => absurd rfl z⟩)
    obtain ⟨-, -, -, w8⟩ := h1.2.2.2.2.2
    have hk0 := hk s1 h1.2.2.1 h1.2.2.2.1
    rw [mkI_5]
    refine ⟨fun z => ?_, fun _ => hk0⟩
    rw [w8 (by omega)]
    exact ⟨fun _ => hk0, fun z => absurd rfl z⟩
  rw [r2.2.2.1, e6]
  exact ⟨fun q => jj 2 (by omega) (by omega) (fun _ => rfl) (fun z => by omega), fun q => jj 1 (by omega) (by omega) (fun z => absurd z q) (fun _ => rfl)⟩
end ARCR
