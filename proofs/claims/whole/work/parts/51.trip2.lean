theorem sp_has {s i : Nat} (hs : s < 2 ^ 31) (hi : i < 32) {K : Int32 → Prop} (h : K (bi (decide (s / 2 ^ i % 2 = 1)))) : wp_X10_has (nI s) (nI i) K := by
  unfold wp_X10_has
  rw [bit_nI hs hi]
  have e : nI (s / 2 ^ i % 2) = (1 : Int32) ↔ s / 2 ^ i % 2 = 1 := nI_eq (b := 1) (by omega) (by decide)
  rw [e]
  refine ⟨fun c => ?_, fun c => ?_⟩
  · rw [decide_eq_true c] at h; exact h
  · rw [decide_eq_false c] at h; exact h
theorem bt_of {b : Bool} (h : ¬ b = false) : b = true := by cases b; exact absurd rfl h; rfl
theorem sp_threadsOf {sS : St} {sL : Int64} (hp : PW sS) {w : Nat} (hw : GW w) {K : Int32 → Prop} (h : K (nI (ths w 3))) : wp_X10_threadsOf sS sL (nI (gn w)) K := by
  unfold wp_X10_threadsOf
  have hgl := gn_lt hw
  refine lp_ind (fun q => ∃ k, k ≤ 3 ∧ q = (nI (ths w k), nI k)) (fun q => 3 - q.2.toNatClampNeg) ?_ _ ⟨0, by omega, rfl⟩
  rintro _ R ⟨k, hk, rfl⟩ hR
  unfold F_X10_threadsOf_5
  dsimp only
  constructor
  · intro c
    have := le3 (y := k) (b := 3) (by omega) (by omega) c
    have : k = 3 := by omega
    subst this
    exact h
  · intro c
    have hk9 := nle3 (y := k) (b := 3) (by omega) (by omega) c
    have hs := ths_lt w k
    refine lp_ind (fun q => ∃ m, m ≤ 3 ∧ q = (nI (nxa w (ths w k) m), nI m)) (fun q => 3 - q.2.toNatClampNeg) ?_ _ ⟨0, by omega, rfl⟩
    rintro _ R2 ⟨m, hm, rfl⟩ hR2
    unfold F_X10_threadsOf_16
    dsimp only
    constructor
    · intro c2
      have := le3 (y := m) (b := 3) (by omega) (by omega) c2
      have : m = 3 := by omega
      subst this
      rintro _ rfl
      rw [nI_1]
      refine hR _ ⟨k + 1, by omega, rfl⟩ ?_
      dsimp only; rw [nI_clamp (by omega), nI_clamp (by omega)]; omega
    · intro c2
      have hm9 := nle3 (y := m) (b := 3) (by omega) (by omega) c2
      have ha := nxa_lt w (ths w k) m
      refine lp_ind (fun q => ∃ y, y ≤ 3 ∧ q = (bi (ldp w m (ths w k) y), nI y)) (fun q => 3 - q.2.toNatClampNeg) ?_ _ ⟨0, by omega, rfl⟩
      rintro _ R3 ⟨y, hy, rfl⟩ hR3
      unfold F_X10_threadsOf_28
      dsimp only
      constructor
      · intro c3
        have := le3 (y := y) (b := 3) (by omega) (by omega) c3
        have : y = 3 := by omega
        subst this
        rw [bi_0]
        refine ⟨fun c4 => ?_, fun c4 => ?_⟩
        · rintro _ rfl _ rfl
          rw [nI_1, (orbit m hm9 _ ha).2]
          refine hR2 _ ⟨m + 1, by omega, by simp only [nxa]; rw [c4]; rfl⟩ ?_
          dsimp only; rw [nI_clamp (by omega), nI_clamp (by omega)]; omega
        · rintro _ rfl _ rfl
          rw [nI_1, (orbit m hm9 _ ha).1]
          refine hR2 _ ⟨m + 1, by omega, by simp only [nxa]; rw [bt_of c4]; rfl⟩ ?_
          dsimp only; rw [nI_clamp (by omega), nI_clamp (by omega)]; omega
      · intro c3
        have hy9 := nle3 (y := y) (b := 3) (by omega) (by omega) c3
        have hmu : ∀ b : Int32, b = bi (ldp w m (ths w k) (y + 1)) → R3 (b, nI y + 1) := by
          intro b eb
          rw [nI_1]
          refine hR3 _ ⟨y + 1, by omega, by rw [eb]⟩ ?_
          dsimp only; rw [nI_clamp (by omega), nI_clamp (by omega)]; omega
        rw [bi_0]
        refine ⟨fun c4 => sp_has (by omega) (by omega) ?_, fun c4 => ?_⟩
        · rw [bi_0]
          refine ⟨fun c5 => ?_, fun c5 => sp_digit hp (by omega) hm9 hy9 ?_⟩
          · rintro _ rfl
            exact hmu _ (by simp only [ldp]; rw [c4, c5]; simp; rfl)
          · rw [gn_dig hw _ (by omega)]
            have hd := dg_lt w (3 * m + y)
            rw [nIle0 (by omega)]
            refine ⟨fun c6 => ?_, fun c6 => ?_⟩
            · rintro _ rfl
              exact hmu _ (by simp only [ldp]; rw [c4]; simp [c6]; rfl)
            · rintro _ rfl
              exact hmu _ (by simp only [ldp]; rw [c4, bt_of c5]; simp [c6]; rfl)
        · rintro _ rfl
          exact hmu _ (by simp only [ldp]; rw [bt_of c4]; rfl)
section TRIP
variable {B : BK} {sX sT sB sD sR sK sM sJ sV sS : St} {sW sL : Int64} {n : Nat} {tr : Nat → Nat}
theorem op_trip (hO : OKb B) (hB : CB sB B) (hM : MB sS B) (hp : PW sS) (hT : RT sR sS B n tr) {p : Int32} {K : Int32 → Int32 → Prop} (h : ∀ a, K a a) : wp_X9_trip sX sT sB sD sR sK sM sJ sV sW p (fun a => wp_X10_trip sS sL p (fun a' => K a a')) := by
  unfold wp_X9_trip wp_X10_trip
  have hN := hO.1
  have hm : ∀ (X : Int32 → Prop), (IX p 3 → X 1) → (¬ IX p 3 → X 0) → wp_X10_in p.toInt64 (0 : Int64) (2 : Int64) X := fun X a b => sp_inI (n := 3) (by decide) (by decide) a b
  refine cls_ix2 (m := 2) (by decide) (fun hv => ?_) (fun hv => hm _ (fun z => absurd z hv) (fun _ => ⟨fun _ => h _, fun e => absurd rfl e⟩))
  have hT' := hT
  obtain ⟨t1, t2, t3, t4⟩ := hT
  have hm1 : ∀ (X : Int32 → Prop), X 1 → wp_X10_in p.toInt64 (0 : Int64) (2 : Int64) X := fun X hx => hm X (fun _ => hx) (fun z => absurd hv z)
  unfold wp_X5_comesBack
  rw [t2, t3]
  rcases Nat.eq_zero_or_pos n with hz | hpz
  · subst hz
    exact ⟨fun _ => ⟨fun _ => hm1 _ ⟨fun e => absurd e (by decide), fun _ => ⟨fun _ => h _, fun e => absurd rfl e⟩⟩, fun e => absurd rfl e⟩, fun e => absurd (by decide) e⟩
  · obtain ⟨a1, a2, a3⟩ := t4 (n - 1) (by omega)
    obtain ⟨o1, o2, o3⟩ := t4 0 hpz
    obtain ⟨-, ct2, -⟩ := hB.2.2 _ a1
    obtain ⟨-, gt, -⟩ := hM.2.2 _ a1
    obtain ⟨cf, -, -⟩ := hB.2.2 _ o1
    obtain ⟨gf, -, -⟩ := hM.2.2 _ o1
    have nz : ¬ nI n = 0 := nI_ne0 hpz (by omega)
    have nle : ¬ nI n ≤ 0 := nI_nle hpz (by omega)
    have b1 : vp_in (nI (n - 1)) 12 := vp_in_nI (by omega) (by decide)
    have b2 : vp_in (nI (tr (n - 1))) 8 := vp_in_nI (by omega) (by decide)
    have b3 : vp_in (nI (tr 0)) 8 := vp_in_nI (by omega) (by decide)
    have hg := tw_GW (tr := tr) hO o1 (n - 1)
    have key : ∀ E : Int32 → Prop, E (nI (gn (tw B tr (n - 1)))) → wp_X10_numberOf sS sL (sS 8 0) (fun r5 => Lp (F_X10_trip_67 sS sL E) (r5, (1 : Int32))) := fun E hE => sp_tripM hO hM hp hT' hpz hE
    have key2 : ∀ X : Int32 → Prop, X (nI (tw B tr (n - 1))) → wp_X5_arcsOfAll sR sB X := fun X hX => sp_arcsTrip hO hB hT' hpz hX
    rw [nI_sub1 hpz, nI_clamp (n := n - 1) (by omega), a2, a3, nI_clamp (n := tr (n - 1)) (by omega), ct2, gt]
    rw [o3] at key ⊢
    rw [o2, nI_clamp (n := tr 0) (by omega), cf, gf]
    refine ⟨fun e => absurd e nle, fun _ => ⟨b1, b2, b3, fun e => ⟨fun e => absurd e (by decide), fun _ => key2 _ ?_⟩, fun ne => ⟨fun _ => hm1 _ ⟨fun e => absurd e (by decide), fun _ => ⟨fun e => absurd e nz, fun _ => ⟨b1, b2, b3, fun e => absurd e ne, fun _ => h _⟩⟩⟩, fun e => absurd rfl e⟩⟩⟩
    refine ⟨fun e0 => sp_toNumber hg.1 ?_, fun n0 => ⟨fun e1 => sp_threads hg.1 ?_, fun n1 => sp_fallsC hg ?_⟩⟩
    · exact hm1 _ ⟨fun e => absurd e (by decide), fun _ => ⟨fun e => absurd e nz, fun _ => ⟨b1, b2, b3, fun _ => key _ ⟨fun _ => h _, fun z => absurd e0 z⟩, fun z => absurd e z⟩⟩⟩
    · exact hm1 _ ⟨fun e => absurd e (by decide), fun _ => ⟨fun e => absurd e nz, fun _ => ⟨b1, b2, b3, fun _ => key _ ⟨fun z => absurd z n0, fun _ => ⟨fun _ => sp_threadsOf hp hg (h _), fun z => absurd e1 z⟩⟩, fun z => absurd e z⟩⟩⟩
    · have fin : ∀ r : Int32, K r 0 → K r 1 → True := fun _ _ _ => trivial
      refine ⟨fun f0 => ?_, fun f1 => ?_⟩
      · exact hm1 _ ⟨fun e => absurd e (by decide), fun _ => ⟨fun e => absurd e nz, fun _ => ⟨b1, b2, b3, fun _ => key _ ⟨fun z => absurd z n0, fun _ => ⟨fun z => absurd z n1, fun _ => sp_fallsM hp hg ⟨fun _ => h _, fun z => absurd f0 z⟩⟩⟩, fun z => absurd e z⟩⟩⟩
      · exact hm1 _ ⟨fun e => absurd e (by decide), fun _ => ⟨fun e => absurd e nz, fun _ => ⟨b1, b2, b3, fun _ => key _ ⟨fun z => absurd z n0, fun _ => ⟨fun z => absurd z n1, fun _ => sp_fallsM hp hg ⟨fun z => absurd z f1, fun _ => h _⟩⟩⟩, fun z => absurd e z⟩⟩⟩
end TRIP
