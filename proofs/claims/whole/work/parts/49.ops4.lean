def bi (b : Bool) : Int32 := if b then 1 else 0
theorem bi_zb (b : Bool) : zb (bi b) := by cases b; exact zb_0; exact zb_1
theorem bi_0 (b : Bool) : bi b = 0 ↔ b = false := by cases b <;> decide
theorem bi_1 (b : Bool) : bi b = 1 ↔ b = true := by cases b <;> decide
/-- the round trip: the same calls in both -/
def RT (sR sS : St) (B : BK) (n : Nat) (tr : Nat → Nat) : Prop := n ≤ 12 ∧ sR 1 0 = nI n ∧ sS 7 0 = nI n ∧ ∀ j, j < n → tr j < bN B ∧ sR 0 j = nI (tr j) ∧ sS 8 j = nI (tr j)
theorem nI_sub1 {n : Nat} (h : 0 < n) : nI n - (1 : Int32) = nI (n - 1) := pk_sub (b := 1) h
section OPS4
variable {B : BK} {sX sT sB sD sR sK sM sJ sV sS : St} {sW sL : Int64} {n : Nat} {tr : Nat → Nat}
theorem op_anew {K : Int32 → St → Int32 → St → Prop} (hT : RT sR sS B n tr) (h : K (nI n) (us sR 1 0) (nI n) (us sS 7 0)) : wp_X9_anew sX sT sB sD sR sK sM sJ sV sW (fun a u => wp_X10_anew sS sL (fun a' u' => K a u a' u')) := by
  unfold wp_X9_anew wp_X10_anew wp_X5_empty
  rintro _ rfl _ rfl _ rfl _ rfl
  rw [hT.2.1, hT.2.2.1]
  exact h
theorem op_clear {K : Int32 → St → Int32 → St → Prop} (hT : sT 1 0 = sS 0 0) (h : K (sS 0 0) (us sT 1 0) (sS 0 0) (us sS 0 0)) : wp_X9_clear sX sT sB sD sR sK sM sJ sV sW (fun a u => wp_X10_clear sS sL (fun a' u' => K a u a' u')) := by
  unfold wp_X9_clear wp_X10_clear wp_X7_empty
  rintro _ rfl _ rfl _ rfl _ rfl
  rw [hT]
  exact h
theorem op_go (hO : OKb B) (hB : CB sB B) (hM : MB sS B) (hT : RT sR sS B n tr) {p : Int32} {K : Int32 → St → Int32 → St → Prop} (h : ∀ a, K a sR a sS)
    (hp : ∀ c, c < bN B → n < 12 → K (nI (n + 1)) (us (ua sR 0 (nI n) (nI c)) 1 (nI (n + 1))) (nI (n + 1)) (us (ua sS 8 (nI n) (nI c)) 7 (nI (n + 1)))) : wp_X9_go sX sT sB sD sR sK sM sJ sV sW p (fun a u => wp_X10_go sS sL p (fun a' u' => K a u a' u')) := by
  unfold wp_X9_go wp_X10_go
  have hN := hO.1
  obtain ⟨t1, t2, t3, t4⟩ := hT
  refine sp_hasCall hO hB (fun hc => ⟨fun e => absurd e (by decide), fun _ => ?_⟩) (fun hc => ⟨fun _ => sp_isCall hO hM (fun z => absurd z hc) (fun _ => ⟨fun _ => h _, fun e => absurd rfl e⟩), fun e => absurd rfl e⟩)
  have hc' := hc
  obtain ⟨c, hcN, rfl⟩ := hc
  obtain ⟨ef, et, ea⟩ := hB.2.2 c hcN
  obtain ⟨mf, mt, ma⟩ := hM.2.2 c hcN
  have i8 : vp_in (nI c) 8 := vp_in_nI (by omega) (by decide)
  have f4 := (hO.2.2 c hcN).1
  have hMc : ∀ (X : Int32 → Prop) , X 1 → wp_X10_isCall sS sL (nI c) X := fun X hx => sp_isCall hO hM (fun _ => hx) (fun z => absurd hc' z)
  have take : ∀ (G : (Int32 → St → Prop) → Prop), (∀ X : Int32 → St → Prop, J_X10_go_45 sS (nI c) X → G X) → wp_X5_take sR (nI c) (fun r5 u5 => ((r5 = 0 → G (fun a' u' => K (-3) u5 a' u')) ∧ (¬ r5 = 0 → G (fun a' u' => K (u5 1 0) u5 a' u')))) := by
    intro G hG
    unfold wp_X5_take
    rw [t2]
    constructor
    · intro c1
      have hn : n < 12 := (nI_ltI (b := 12) (by omega) (by decide)).mp c1
      refine ⟨vp_in_nI hn (by decide), ?_⟩
      rintro _ rfl _ rfl
      refine ⟨fun e => absurd e (by decide), fun _ => hG _ ?_⟩
      unfold J_X10_go_45
      rw [t3]
      refine ⟨fun e => absurd (nI_eq0 (b := 12) (by omega) (by decide) e) (by omega), fun _ => ⟨vp_in_nI hn (by decide), ?_⟩⟩
      rintro _ rfl _ rfl
      rw [ua_n (by decide), us_s, ua_n (by decide), us_s, t2, t3, nI_1]
      exact hp c hcN hn
    · intro c1
      have hn : n = 12 := by
        rcases Nat.lt_or_ge n 12 with q | q
        · exact absurd ((nI_ltI (b := 12) (by omega) (by decide)).mpr q) c1
        · omega
      refine ⟨fun _ => hG _ ?_, fun e => absurd rfl e⟩
      unfold J_X10_go_45
      rw [t3]
      exact ⟨fun _ => h _, fun e => absurd (by rw [hn]; rfl) e⟩
  unfold wp_X5_goesOnBy
  rw [t2, t3]
  rcases Nat.eq_zero_or_pos n with hz | hpz
  · refine ⟨fun _ => ⟨fun e => absurd e (by decide), fun _ => ?_⟩, fun e => absurd (by rw [hz]; rfl) e⟩
    refine take (fun X => wp_X10_isCall sS sL (nI c) (fun r1 => (r1 = 0 → X (-1) sS) ∧ (¬ r1 = 0 → (nI n ≤ 0 → J_X10_go_45 sS (nI c) X) ∧ (¬ nI n ≤ 0 → vp_in (nI n - 1) 12 ∧ vp_in (sS 8 (nI n - 1).toNatClampNeg) 8 ∧ vp_in (nI c) 8 ∧ (sS 5 (sS 8 (nI n - 1).toNatClampNeg).toNatClampNeg = sS 4 (nI c).toNatClampNeg → J_X10_go_45 sS (nI c) X) ∧ (¬ sS 5 (sS 8 (nI n - 1).toNatClampNeg).toNatClampNeg = sS 4 (nI c).toNatClampNeg → X (-2) sS))))) (fun X hX => hMc _ ⟨fun e => absurd e (by decide), fun _ => ⟨fun _ => hX, fun e => absurd (by rw [hz]; decide) e⟩⟩)
  · obtain ⟨a1, a2, a3⟩ := t4 (n - 1) (by omega)
    obtain ⟨cf, ct2, -⟩ := hB.2.2 _ a1
    obtain ⟨gf, gt, -⟩ := hM.2.2 _ a1
    have tt4 := (hO.2.2 _ a1).2.1
    have nz : ¬ nI n = 0 := nI_ne0 hpz (by omega)
    have nle : ¬ nI n ≤ 0 := nI_nle hpz (by omega)
    rw [nI_sub1 hpz, nI_clamp (n := n - 1) (by omega), a2, a3, nI_clamp (n := tr (n - 1)) (by omega), ct2, gt, nI_clamp (n := c) (by omega), ef, mf]
    have b1 : vp_in (nI (n - 1)) 12 := vp_in_nI (by omega) (by decide)
    have b2 : vp_in (nI (tr (n - 1))) 8 := vp_in_nI (by omega) (by decide)
    refine ⟨fun e => absurd e nz, fun _ => ⟨b1, b2, i8, fun e => ⟨fun e => absurd e (by decide), fun _ => ?_⟩, fun ne => ⟨fun _ => hMc _ ⟨fun e => absurd e (by decide), fun _ => ⟨fun e => absurd e nle, fun _ => ⟨b1, b2, i8, fun e => absurd e ne, fun _ => h _⟩⟩⟩, fun e => absurd rfl e⟩⟩⟩
    refine take (fun X => wp_X10_isCall sS sL (nI c) (fun r1 => (r1 = 0 → X (-1) sS) ∧ (¬ r1 = 0 → (nI n ≤ 0 → J_X10_go_45 sS (nI c) X) ∧ (¬ nI n ≤ 0 → vp_in (nI (n - 1)) 12 ∧ vp_in (nI (tr (n - 1))) 8 ∧ vp_in (nI c) 8 ∧ (nI (bt B (tr (n - 1))) = nI (bf B c) → J_X10_go_45 sS (nI c) X) ∧ (¬ nI (bt B (tr (n - 1))) = nI (bf B c) → X (-2) sS))))) (fun X hX => hMc _ ⟨fun e => absurd e (by decide), fun _ => ⟨fun e => absurd e nle, fun _ => ⟨b1, b2, i8, fun _ => hX, fun z => absurd e z⟩⟩⟩)
/-- the graph of the trip's first m + 1 calls -/
def tw (B : BK) (tr : Nat → Nat) : Nat → Nat
  | 0 => ba B (tr 0)
  | m + 1 => jw (tw B tr m) (ba B (tr (m + 1)))
theorem tw_GW (hO : OKb B) (h0 : tr 0 < bN B) (m : Nat) : GW (tw B tr m) := by
  cases m with
  | zero => exact (hO.2.2 _ h0).2.2.1
  | succ m => exact jw_GW _ _
theorem sp_arcsTrip (hO : OKb B) (hB : CB sB B) (hT : RT sR sS B n tr) (hn : 0 < n) {K : Int32 → Prop} (h : K (nI (tw B tr (n - 1)))) : wp_X5_arcsOfAll sR sB K := by
  unfold wp_X5_arcsOfAll
  obtain ⟨t1, t2, t3, t4⟩ := hT
  have hN := hO.1
  obtain ⟨a1, a2, a3⟩ := t4 0 hn
  rw [a2, nI_clamp (by omega), (hB.2.2 _ a1).2.2]
  refine ⟨vp_in_nI (by omega) (by decide), ?_⟩
  rintro _ rfl
  refine lp_ind (fun q => ∃ m, m < n ∧ q = (nI (tw B tr m), nI (m + 1))) (fun q => n - q.2.toNatClampNeg) ?_ _ ⟨0, hn, rfl⟩
  rintro _ R ⟨m, hm, rfl⟩ hR
  unfold F_X5_arcsOfAll_14
  dsimp only
  rw [t2]
  constructor
  · intro c
    have := le3 (y := m + 1) (b := n) (by omega) (by omega) c
    rw [show m = n - 1 by omega]
    exact h
  · intro c
    have hm9 := nle3 (y := m + 1) (b := n) (by omega) (by omega) c
    obtain ⟨b1, b2, b3⟩ := t4 (m + 1) hm9
    rw [nI_clamp (n := m + 1) (by omega), b2, nI_clamp (n := tr (m + 1)) (by omega), (hB.2.2 _ b1).2.2]
    refine ⟨vp_in_nI (by omega) (by decide), vp_in_nI (by omega) (by decide), sp_join (tw_GW hO a1 m) (hO.2.2 _ b1).2.2.1 ?_⟩
    rintro _ rfl
    rw [nI_1]
    refine hR _ ⟨m + 1, hm9, rfl⟩ ?_
    dsimp only; rw [nI_clamp (by omega), nI_clamp (by omega)]; omega
theorem sp_tripM (hO : OKb B) (hM : MB sS B) (hp : PW sS) (hT : RT sR sS B n tr) (hn : 0 < n) {E : Int32 → Prop} (h : E (nI (gn (tw B tr (n - 1))))) : wp_X10_numberOf sS sL (sS 8 0) (fun r5 => Lp (F_X10_trip_67 sS sL E) (r5, (1 : Int32))) := by
  obtain ⟨t1, t2, t3, t4⟩ := hT
  have hN := hO.1
  obtain ⟨a1, a2, a3⟩ := t4 0 hn
  rw [a3]
  refine sp_numberOf (by omega) (hO.2.2 _ a1).2.2.1 (hM.2.2 _ a1).2.2 ?_
  refine lp_ind (fun q => ∃ m, m < n ∧ q = (nI (gn (tw B tr m)), nI (m + 1))) (fun q => n - q.2.toNatClampNeg) ?_ _ ⟨0, hn, rfl⟩
  rintro _ R ⟨m, hm, rfl⟩ hR
  unfold F_X10_trip_67
  dsimp only
  rw [t3]
  constructor
  · intro c
    have := le3 (y := m + 1) (b := n) (by omega) (by omega) c
    rw [show m = n - 1 by omega]
    exact h
  · intro c
    have hm9 := nle3 (y := m + 1) (b := n) (by omega) (by omega) c
    obtain ⟨b1, b2, b3⟩ := t4 (m + 1) hm9
    rw [nI_clamp (n := m + 1) (by omega), b3]
    refine ⟨vp_in_nI (by omega) (by decide), sp_numberOf (by omega) (hO.2.2 _ b1).2.2.1 (hM.2.2 _ b1).2.2 (sp_put2 hp (tw_GW hO a1 m) (hO.2.2 _ b1).2.2.1 ?_)⟩
    rintro _ rfl
    rw [nI_1]
    refine hR _ ⟨m + 1, hm9, rfl⟩ ?_
    dsimp only; rw [nI_clamp (by omega), nI_clamp (by omega)]; omega
end OPS4
