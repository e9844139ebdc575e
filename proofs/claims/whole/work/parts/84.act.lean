/-! ===== reading: an act ===== -/
/-- an act's places are told -/
def plB (B : BK) (a m : Nat) : BK := (bN B, up (bp B) a m, bf B, bt B, ba B)
theorem plB_ok {B : BK} {a m : Nat} (hO : OKb B) (hN : bN B = 0) (hm : m ≤ 3) : OKb (plB B a m) := by
  refine ⟨hO.1, fun x hx => ?_, fun c hc => ?_⟩
  · show up (bp B) a m x ≤ 3
    by_cases e : x = a
    · subst e; rw [up_s]; exact hm
    · rw [up_n e]; exact hO.2.1 x hx
  · have : c < bN B := hc
    omega
theorem plB_C {sB : St} {B : BK} {a m : Nat} (ha : a < 4) (hB : CB sB B) : CB (ua sB 0 (nI a) (nI m)) (plB B a m) := by
  refine ⟨by rw [ua_n (by decide)]; exact hB.1, fun x hx => ?_, fun c hc => ?_⟩
  · rw [ua_s, nI_clamp (by omega)]
    show upd (sB 0) a (nI m) x = nI (up (bp B) a m x)
    by_cases e : x = a
    · subst e; rw [pk_us, up_s]
    · rw [pk_un e, up_n e]; exact hB.2.1 x hx
  · rw [ua_n (by decide), ua_n (by decide), ua_n (by decide)]
    exact hB.2.2 c hc
theorem plB_R {s : St} {B : BK} {a m tm it : Nat} (ha : a < 4) (htm : tm < 16) (h : RMr s B tm it) : RMr (ua (ua s 16 (nI a) 1) 15 (nI a) (nI m)) (plB B a m) (tm ||| 2 ^ a) it := by
  obtain ⟨h1, h2, h3, h4⟩ := h
  obtain ⟨-, -, o3⟩ := orb_ok tm htm a ha
  refine ⟨by rw [ua_n (by decide), ua_n (by decide)]; exact h1, fun x hx => ?_, fun c hc => ?_, by rw [ua_n (by decide), ua_n (by decide)]; exact h4⟩
  · rw [ua_s, ua_n (j := 16) (by decide), ua_s, ua_n (j := 15) (by decide), nI_clamp (by omega)]
    have ob := o3 x hx
    show upd (s 15) a (nI m) x = nI (up (bp B) a m x) ∧ upd (s 16) a 1 x = nI ((tm ||| 2 ^ a) / 2 ^ x % 2)
    by_cases e : x = a
    · subst e
      rw [pk_us, pk_us, up_s, ob.mpr (Or.inr rfl)]
      exact ⟨rfl, rfl⟩
    · rw [pk_un e, pk_un e, up_n e]
      obtain ⟨g1, g2⟩ := h2 x hx
      refine ⟨g1, ?_⟩
      rw [g2]
      have : (tm ||| 2 ^ a) / 2 ^ x % 2 = tm / 2 ^ x % 2 := by
        by_cases z : tm / 2 ^ x % 2 = 1
        · rw [z]; exact ob.mpr (Or.inl z)
        · have z2 : ¬ (tm ||| 2 ^ a) / 2 ^ x % 2 = 1 := fun w => by
            rcases ob.mp w with q | q
            · exact z q
            · exact e q.symm
          omega
      rw [this]
  · rw [ua_n (by decide), ua_n (by decide), ua_n (by decide), ua_n (by decide), ua_n (by decide), ua_n (by decide)]
    exact h3 c hc
section ACT
variable {sS : St} {sL : Int64} {n : Nat} {tx : Nat → Nat} {B : BK} {tm it v st bh : Nat}
set_option maxHeartbeats 1000000 in
theorem sp_readAct {sT sB : St} (hO : OKb B) (hB : CB sB B) (hN : bN B = 0) (htm : tm < 16) (hR : RC n tx tm 2 v st bh sT) (hb : bh ≤ n) {K : (St × St) → Prop}
    (bad : ∀ f sT' sB', f ≤ n → FLT n tx f sT' → (∀ K'' : Int32 → St → Prop, (∀ s, FRD sS s → s 13 0 = nI f → K'' 0 s) → ∀ s0, MP sS n tx B tm it bh s0 → wp_X10_actItem s0 sL K'') → K (sT', sB'))
    (ok : ∀ B' tm' k' v' st' bh' p' sT' sB', OKb B' → CB sB' B' → bN B' = 0 → tm' < 16 → bh < p' → TK n tx p' k' v' st' bh' → RC n tx tm' k' v' st' bh' sT' → (∀ K'' : Int32 → St → Prop, (∀ s, MP sS n tx B' tm' it p' s → K'' 1 s) → ∀ s0, MP sS n tx B tm it bh s0 → wp_X10_actItem s0 sL K'') → K (sT', sB')) : wp_X7_readAct sT sB K := by
  unfold wp_X7_readAct
  have h300 := hR.1.1
  refine hR.adv hb (fun u1 k1 v1 st1 bh1 t1 r1 => ?_)
  have hk1 := t1.k8
  rintro _ rfl
  have bad1 : ¬ (k1 = 4 ∧ tm / 2 ^ v1 % 2 = 0) → J_X7_readAct_33 u1 sB (u1 4 0) K := by
    intro hn
    unfold J_X7_readAct_33 J_X7_readAct_34
    refine standR r1 (b := false) (fun z => absurd z (by decide)) (fun _ s' hs => ⟨fun _ => bad st1 s' sB (by have := t1.2.1; have := t1.2.2.1; omega) hs (fun K'' hk s0 h0 => ?_), fun z => absurd rfl z⟩)
    unfold wp_X10_actItem
    refine tokR h0 t1 (fun s2 h2 => ?_)
    rw [mkI_3]
    refine ⟨fun e => ?_, fun _ => hk s2 h2.2.2.1 h2.2.2.2.1⟩
    have hv4 := t1.v4 e
    rw [h2.2.2.2.2.2.1 (Or.inl e), nI_clamp (by omega), (h2.2.1.2.1 v1 hv4).2, nI_z (by omega)]
    exact ⟨vp_in_nI hv4 (by decide), fun z => absurd ⟨e, z⟩ hn, fun _ => hk s2 h2.2.2.1 h2.2.2.2.1⟩
  have e4 : nI k1 = (4 : Int32) ↔ k1 = 4 := nI_eq (b := 4) (by omega) (by decide)
  rw [r1.2.2.1, e4]
  refine ⟨fun c1 => ?_, fun c1 => bad1 (fun z => c1 z.1)⟩
  have hv4 := t1.v4 c1
  rw [r1.2.2.2.1] at bad1 ⊢
  rw [r1.2.2.2.2.2.1, bit_nI (by omega) (by omega), nI_z (by omega)]
  refine ⟨fun c2 => ?_, fun c2 => bad1 (fun z => c2 z.2)⟩
  clear bad1
  have m1 : ∀ K'' : Int32 → St → Prop, (∀ s', MP sS n tx B tm it bh1 s' → wp_X10_number s' sL (3 : Int32) (fun r5 u5 => (r5 = 0 → K'' (0 : Int32) u5) ∧ (¬ r5 = 0 → vp_in (nI v1) 4 ∧ ∀ z7 : St, z7 = ua u5 16 (nI v1) (1 : Int32) → vp_in (nI v1) 4 ∧ ∀ z8 : St, z8 = ua z7 15 (nI v1) (z7 14 0) → wp_X10_sign z8 sL (59 : Int32) (fun r9 u9 => zb r9 ∧ K'' r9 u9)))) → ∀ s0, MP sS n tx B tm it bh s0 → wp_X10_actItem s0 sL K'' := by
    intro K'' hk s0 h0
    unfold wp_X10_actItem
    refine tokR h0 t1 (fun s2 h2 => ?_)
    rw [mkI_3]
    refine ⟨fun e => ?_, fun z => absurd c1 z⟩
    have hw := h2.2.2.2.2.2.1 (Or.inl e)
    rw [hw, nI_clamp (by omega), (h2.2.1.2.1 v1 hv4).2, nI_z (by omega)]
    refine ⟨vp_in_nI hv4 (by decide), fun _ => ?_, fun z => absurd c2 z⟩
    rintro _ rfl
    exact hk s2 (h2.mp (by omega))
  unfold J_X7_readAct_34
  refine standR r1 (b := true) (fun _ => ⟨fun z => absurd z (by decide), fun _ => ?_⟩) (fun z => absurd z (by decide))
  obtain ⟨o1, o2, -⟩ := orb_ok tm htm v1 hv4
  rw [r1.2.2.2.2.2.1, o1]
  rintro _ rfl
  refine advR (tm := tm ||| 2 ^ v1) (r1.1.fr (us_n (by decide)) (us_n (by decide))) (by rw [us_n (by decide)]; exact r1.2.2.2.2.1) t1.2.2.1 (by rw [us_s]) (by rw [us_n (by decide)]; exact r1.2.2.2.2.2.2) (fun u7 k2 v2 st2 bh2 t2 r2 => ?_)
  have hk2 := t2.k8
  have e5 : nI k2 = (5 : Int32) ↔ k2 = 5 := nI_eq (b := 5) (by omega) (by decide)
  have bad2 : ¬ (k2 = 5 ∧ v2 ≤ 3) → J_X7_readAct_78 u7 sB (nI v1) K := by
    intro hn
    unfold J_X7_readAct_78 J_X7_readAct_79
    refine standR r2 (b := false) (fun z => absurd z (by decide)) (fun _ s' hs => ⟨fun _ => bad st2 s' sB (by have := t2.2.1; have := t2.2.2.1; omega) hs (fun K'' hk s0 h0 => m1 K'' (fun s2 h2 => ?_) s0 h0), fun z => absurd rfl z⟩)
    refine numR h2 t2 (fun a1 a2 s3 h3 => ?_) (fun _ s3 h3 => ⟨fun _ => hk s3 h3.2.2.1 h3.2.2.2.1, fun z => absurd rfl z⟩)
    have hv5 := t2.v5 a1
    rw [show (3 : Int32) = nI 3 from rfl, nI_ltI (by decide) (by omega)] at a2
    exact absurd ⟨a1, by omega⟩ hn
  rw [r2.2.2.1, e5]
  refine ⟨fun c3 => ?_, fun c3 => bad2 (fun z => c3 z.1)⟩
  have hv5 := t2.v5 c3
  rw [r2.2.2.2.1, show (3 : Int32) = nI 3 from rfl, nI_ltI (by decide) (by omega)]
  refine ⟨fun c4 => bad2 (fun z => by omega), fun c4 => ?_⟩
  clear bad2
  have hv3 : v2 ≤ 3 := by omega
  have m2 : ∀ K'' : Int32 → St → Prop, (∀ s', MP sS n tx (plB B v1 v2) (tm ||| 2 ^ v1) it bh2 s' → wp_X10_sign s' sL (59 : Int32) (fun r9 u9 => (zb r9 ∧ K'' r9 u9))) → ∀ s0, MP sS n tx B tm it bh s0 → wp_X10_actItem s0 sL K'' := by
    intro K'' hk
    refine m1 K'' (fun s2 h2 => ?_)
    refine numR h2 t2 (fun a1 a2 s3 h3 => ⟨fun z => absurd z (by decide), fun _ => ⟨vp_in_nI hv4 (by decide), ?_⟩⟩) (fun a1 => ?_)
    · rintro _ rfl
      refine ⟨vp_in_nI hv4 (by decide), ?_⟩
      rw [ua_n (j := 14) (by decide), h3.2.2.2.2.2.1 (Or.inr c3)]
      rintro _ rfl
      refine hk _ ⟨?_, plB_R hv4 htm h3.2.1, fun q hq => ?_, ?_⟩
      · exact h3.1.fr (by rw [ua_n (by decide), ua_n (by decide)]) (by rw [ua_n (by decide), ua_n (by decide)])
      · rw [ua_n (by omega), ua_n (by omega)]; exact h3.2.2.1 q hq
      · rw [ua_n (by decide), ua_n (by decide)]; exact h3.2.2.2.2.1 (by omega)
    · have a2 := a1 c3
      rw [show (3 : Int32) = nI 3 from rfl, nI_ltI (by decide) (by omega)] at a2
      omega
  unfold J_X7_readAct_79
  refine standR r2 (b := true) (fun _ => ⟨fun z => absurd z (by decide), fun _ => ⟨vp_in_nI hv4 (by decide), ?_⟩⟩) (fun z => absurd z (by decide))
  rw [r2.2.2.2.1]
  rintro _ rfl
  have hO' := plB_ok (a := v1) hO hN hv3
  have hB' := plB_C (m := v2) hv4 hB
  refine r2.adv t2.2.2.1 (fun u12 k3 v3 st3 bh3 t3 r3 => ?_)
  have hk3 := t3.k8
  have e8 : nI k3 = (8 : Int32) ↔ k3 = 8 := nI_eq (b := 8) (by omega) (by decide)
  rw [r3.2.2.1, e8]
  refine ⟨fun c5 => ?_, fun c5 => ?_⟩
  · unfold J_X7_readAct_115
    refine standR r3 (b := true) (fun _ => ⟨fun z => absurd z (by decide), fun _ => ?_⟩) (fun z => absurd z (by decide))
    refine r3.adv t3.2.2.1 (fun u16 k4 v4 st4 bh4 t4 r4 => ?_)
    have l1 := t1.lt (by omega)
    have l2 := t2.lt (by omega)
    have l3 := t3.lt (by omega)
    have q1 := t1.1
    have q2 := t2.1
    have q3 := t3.1
    refine ok (plB B v1 v2) (tm ||| 2 ^ v1) k4 v4 st4 bh4 bh3 u16 _ hO' hB' hN o2 (by omega) t4 r4 (fun K'' hk => m2 K'' (fun s2 h2 => ?_))
    exact signR h2 t3 (fun _ s3 h3 => ⟨zb_1, hk s3 (h3.mp (by omega))⟩) (fun z => absurd c5 z)
  · unfold J_X7_readAct_115
    refine standR r3 (b := false) (fun z => absurd z (by decide)) (fun _ s' hs => ⟨fun _ => bad st3 s' _ (by have := t3.2.1; have := t3.2.2.1; omega) hs (fun K'' hk => m2 K'' (fun s2 h2 => ?_)), fun z => absurd rfl z⟩)
    exact signR h2 t3 (fun z => absurd z c5) (fun _ s3 h3 => ⟨zb_0, hk s3 h3.2.2.1 h3.2.2.2.1⟩)
end ACT
