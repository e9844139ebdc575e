section OPS3
variable {B : BK} {sX sT sB sD sR sK sM sJ sV sS : St} {sW sL : Int64}
theorem i32_mul2 (a : Nat) : nI a * 2 = nI (2 * a) ∧ (2 : Int32) * nI a = nI (2 * a) := by
  refine ⟨?_, ?_⟩
  · rw [show (2 : Int32) = nI 2 from rfl, pk_mul, Nat.mul_comm]
  · rw [show (2 : Int32) = nI 2 from rfl, pk_mul]
theorem i32_sub3 (r a b c : Int32) : r - (a + b + c) = r - a - b - c := by
  apply Int32.toBitVec_inj.mp
  simp only [Int32.toBitVec_sub, Int32.toBitVec_add, BitVec.sub_eq_add_neg, BitVec.neg_add, BitVec.add_assoc]
def b01 (n : Nat) : Nat := if n = 0 then 0 else 1
theorem nIle0 {a : Nat} (ha : a < 2 ^ 31) : nI a ≤ 0 ↔ a = 0 := by
  have := nI_leI (b := 0) ha (by decide)
  rw [show (0 : Int32) = nI 0 from rfl, this]; omega
theorem slf3 (w : Nat) : slf w 3 = b01 (dg w 0) + b01 (dg w 4) + b01 (dg w 8) := by
  simp only [slf, b01]; simp
theorem sp_w124 {i w : Nat} (hi8 : i < 8) (ha : MA sS i w) {a b : Int32} {K : Int32 → Int64 → Prop} (h : K (a - b - nI (b01 (dg w 8))) sL) : J_X10_weight_124 sS sL (nI i) a b K := by
  unfold J_X10_weight_124
  have e1 : (9 : Int32) * nI i + (8 : Int32) = nI (9 * i + 8) := by rw [← nI_add, ← pk_mul]; rfl
  have hd := dg_lt w 8
  rw [e1, nI_clamp (by omega), ha 8 (by omega), nIle0 (by omega)]
  refine ⟨vp_in_nI (by omega) (by decide), fun c => ?_, fun c => ?_⟩
  · unfold b01 at h; rw [if_pos c] at h; exact h
  · unfold b01 at h; rw [if_neg c] at h; exact h
theorem sp_w104 {i w : Nat} (hi8 : i < 8) (ha : MA sS i w) {a b : Int32} {K : Int32 → Int64 → Prop} (h : K (a - b - nI (b01 (dg w 4)) - nI (b01 (dg w 8))) sL) : J_X10_weight_104 sS sL (nI i) a b K := by
  unfold J_X10_weight_104
  have e1 : (9 : Int32) * nI i + (4 : Int32) = nI (9 * i + 4) := by rw [← nI_add, ← pk_mul]; rfl
  have hd := dg_lt w 4
  rw [e1, nI_clamp (by omega), ha 4 (by omega), nIle0 (by omega)]
  refine ⟨vp_in_nI (by omega) (by decide), fun c => sp_w124 hi8 ha ?_, fun c => sp_w124 hi8 ha ?_⟩
  · unfold b01 at h; rw [if_pos c] at h; exact h
  · unfold b01 at h; rw [if_neg c] at h; exact h
theorem op_weight (hO : OKb B) (hB : CB sB B) (hM : MB sS B) {p q : Int32} {K : Int32 → Int64 → Int32 → Int64 → Prop} (h : ∀ a t, K a t a t) : wp_X9_weight sX sT sB sD sR sK sM sJ sV sW p q (fun a u => wp_X10_weight sS sW p q (fun a' u' => K a u a' u')) := by
  unfold wp_X9_weight wp_X10_weight
  have hN := hO.1
  have hm : ∀ (X : Int32 → Prop), (IX p 5 → X 1) → (¬ IX p 5 → X 0) → wp_X10_in p.toInt64 (0 : Int64) (4 : Int64) X := fun X a b => sp_inI (n := 5) (by decide) (by decide) a b
  refine sp_hasCall hO hB (fun hc => ⟨fun e => absurd e (by decide), fun _ => ?_⟩) (fun hc => ⟨fun _ => ?_, fun e => absurd rfl e⟩)
  · have hc' := hc
    obtain ⟨c, hcN, rfl⟩ := hc
    obtain ⟨f4, t4, gw, -⟩ := hO.2.2 c hcN
    obtain ⟨ef, et, ea⟩ := hB.2.2 c hcN
    obtain ⟨mf, mt, ma⟩ := hM.2.2 c hcN
    have gb := gw.1
    have i8 : vp_in (nI c) 8 := vp_in_nI (by omega) (by decide)
    have c8 : c < 8 := by omega
    have hMc : ∀ (X : Int32 → Prop) , X 1 → wp_X10_isCall sS sW (nI c) X := fun X hx => sp_isCall hO hM (fun _ => hx) (fun z => absurd hc' z)
    have eb : sB 3 (nI c).toNatClampNeg = nI (ba B c) := by rw [nI_clamp (by omega)]; exact ea
    have h1 : ∀ X : Int32 → Prop, X (nI (cnt (ba B c) 1 9)) → wp_X0_howMany (nI (ba B c)) (1 : Int32) X := fun X hx => sp_howMany (l := 1) gb (by decide) hx
    have h2 : ∀ X : Int32 → Prop, X (nI (cnt (ba B c) 2 9)) → wp_X0_howMany (nI (ba B c)) (2 : Int32) X := fun X hx => sp_howMany (l := 2) gb (by decide) hx
    have m1 : ∀ (t : Int64) (X : Int32 → Prop), X (nI (cnt (ba B c) 1 9)) → wp_X10_arcsOf sS t (nI c) (1 : Int32) X := fun t X hx => sp_arcsOf (l := 1) c8 ma (by decide) hx
    have m2 : ∀ (t : Int64) (X : Int32 → Prop), X (nI (cnt (ba B c) 2 9)) → wp_X10_arcsOf sS t (nI c) (2 : Int32) X := fun t X hx => sp_arcsOf (l := 2) c8 ma (by decide) hx
    refine ⟨fun e0 => ?_, fun n0 => ⟨fun e1 => ?_, fun n1 => ⟨fun e2 => ?_, fun n2 => ⟨fun e3 => ?_, fun n3 => ⟨fun e4 => ?_, fun n4 => ?_⟩⟩⟩⟩⟩
    · unfold wp_X8_ofCall
      rw [eb]
      refine ⟨i8, h1 _ (hm _ (fun _ => ⟨fun e => absurd e (by decide), fun _ => hMc _ ⟨fun e => absurd e (by decide), fun _ => ⟨fun _ => ?_, fun z => absurd e0 z⟩⟩⟩) (fun z => absurd ⟨0, by decide, e0⟩ z))⟩
      unfold wp_X10_plainWeight
      exact m1 _ _ (h _ _)
    · unfold wp_X8_ofSelf wp_X8_ofCall
      rw [eb]
      refine ⟨i8, h1 _ ⟨i8, h2 _ (hm _ (fun _ => ⟨fun e => absurd e (by decide), fun _ => hMc _ ⟨fun e => absurd e (by decide), fun _ => ⟨fun z => absurd z n0, fun _ => ⟨fun _ => ?_, fun z => absurd e1 z⟩⟩⟩⟩) (fun z => absurd ⟨1, by decide, e1⟩ z))⟩⟩
      unfold wp_X10_selfWeight wp_X10_plainWeight
      exact m1 _ _ (m2 _ _ (h _ _))
    · unfold wp_X8_ofOther wp_X8_ofCall
      rw [eb]
      refine ⟨i8, h1 _ (hm _ (fun _ => ⟨fun e => absurd e (by decide), fun _ => hMc _ ⟨fun e => absurd e (by decide), fun _ => ⟨fun z => absurd z n0, fun _ => ⟨fun z => absurd z n1, fun _ => ⟨fun _ => ?_, fun z => absurd e2 z⟩⟩⟩⟩⟩) (fun z => absurd ⟨2, by decide, e2⟩ z))⟩
      unfold wp_X10_otherWeight wp_X10_plainWeight
      refine m1 _ _ ?_
      dsimp only
      rw [(i32_mul2 _).1, (i32_mul2 _).2]
      exact h _ _
    · unfold wp_X8_ofPlain wp_X8_ofSelf wp_X8_ofCall
      rw [eb]
      refine ⟨i8, h1 _ ⟨i8, h2 _ ⟨i8, sp_toThemselves gb (hm _ (fun _ => ⟨fun e => absurd e (by decide), fun _ => hMc _ ⟨fun e => absurd e (by decide), fun _ => ⟨fun z => absurd z n0, fun _ => ⟨fun z => absurd z n1, fun _ => ⟨fun z => absurd z n2, fun _ => ⟨fun _ => ?_, fun z => absurd e3 z⟩⟩⟩⟩⟩⟩) (fun z => absurd ⟨3, by decide, e3⟩ z))⟩⟩⟩
      unfold wp_X10_selfWeight wp_X10_plainWeight
      refine m1 _ _ (m2 _ _ ?_)
      have e9 : (9 : Int32) * nI c = nI (9 * c + 0) := by rw [show (9 : Int32) * nI c = nI (9 * c) by rw [← pk_mul]; rfl]; rfl
      have hd := dg_lt (ba B c) 0
      have es : nI (slf (ba B c) 3) = nI (b01 (dg (ba B c) 0)) + nI (b01 (dg (ba B c) 4)) + nI (b01 (dg (ba B c) 8)) := by rw [slf3, ← nI_add, ← nI_add]
      dsimp only
      rw [e9, nI_clamp (by omega), ma 0 (by omega), nIle0 (by omega), es, i32_sub3]
      refine ⟨vp_in_nI (by omega) (by decide), fun z => sp_w104 c8 ma ?_, fun z => sp_w104 c8 ma ?_⟩
      · have hz : b01 (dg (ba B c) 0) = 0 := by unfold b01; rw [if_pos z]
        rw [hz]; exact h _ _
      · have hz : b01 (dg (ba B c) 0) = 1 := by unfold b01; rw [if_neg z]
        rw [hz]; exact h _ _
    · unfold wp_X8_ofFar wp_X8_ofOther wp_X8_ofCall
      rw [eb]
      have et' : sB 2 (nI c).toNatClampNeg = nI (bt B c) := by rw [nI_clamp (by omega)]; exact et
      have mt' : sS 5 (nI c).toNatClampNeg = nI (bt B c) := by rw [nI_clamp (by omega)]; exact mt
      rw [et', mt', nI_clamp (n := bt B c) (by omega), hB.2.1 _ t4, hM.2.1 _ t4]
      refine ⟨i8, h1 _ ⟨i8, vp_in_nI t4 (by decide), hm _ (fun _ => ⟨fun e => absurd e (by decide), fun _ => hMc _ ⟨fun e => absurd e (by decide), fun _ => ⟨fun z => absurd z n0, fun _ => ⟨fun z => absurd z n1, fun _ => ⟨fun z => absurd z n2, fun _ => ⟨fun z => absurd z n3, fun _ => ?_⟩⟩⟩⟩⟩⟩) (fun z => absurd ⟨4, by decide, e4⟩ z)⟩⟩
      unfold wp_X10_otherWeight wp_X10_plainWeight
      refine m1 _ _ ⟨i8, vp_in_nI t4 (by decide), ?_⟩
      rw [(i32_mul2 _).1, (i32_mul2 _).2]
      exact h _ _
    · refine hm _ (fun z => absurd z ?_) (fun _ => ⟨fun _ => h _ _, fun e => absurd rfl e⟩)
      rintro ⟨d, hd, rfl⟩
      match d, hd with
      | 0, _ => exact n0 rfl
      | 1, _ => exact n1 rfl
      | 2, _ => exact n2 rfl
      | 3, _ => exact n3 rfl
      | 4, _ => exact n4 rfl
      | d + 5, g => exact absurd g (by omega)
  · refine hm _ (fun _ => ⟨fun e => absurd e (by decide), fun _ => ?_⟩) (fun _ => ⟨fun _ => h _ _, fun e => absurd rfl e⟩)
    exact sp_isCall hO hM (fun z => absurd z hc) (fun _ => ⟨fun _ => h _ _, fun e => absurd rfl e⟩)
/-- the sum of what the first m calls have -/
def sumc (f : Nat → Nat) : Nat → Nat
  | 0 => 0
  | m + 1 => sumc f m + f m
theorem sp_arcsAllC (hO : OKb B) (hB : CB sB B) {K : Int32 → Prop} (h : K (nI (sumc (fun c => cnt (ba B c) 1 9) (bN B)))) : wp_X1_arcsOfAll sB K := by
  unfold wp_X1_arcsOfAll
  have hN := hO.1
  refine lp_ind (fun q => ∃ m, m ≤ bN B ∧ q = (nI (sumc (fun c => cnt (ba B c) 1 9) m), nI m)) (fun q => bN B - q.2.toNatClampNeg) ?_ _ ⟨0, by omega, rfl⟩
  rintro _ R ⟨m, hm, rfl⟩ hR
  unfold F_X1_arcsOfAll_4
  dsimp only
  rw [hB.1]
  constructor
  · intro c
    have := le3 (y := m) (b := bN B) (by omega) (by omega) c
    have : m = bN B := by omega
    subst this
    exact h
  · intro c
    have hm9 := nle3 (y := m) (b := bN B) (by omega) (by omega) c
    rw [nI_clamp (by omega), (hB.2.2 m hm9).2.2]
    refine ⟨vp_in_nI (by omega) (by decide), sp_howMany (l := 1) (hO.2.2 m hm9).2.2.1.1 (by decide) ?_⟩
    rintro _ rfl _ rfl
    refine hR _ ⟨m + 1, by omega, by rw [nI_add, nI_1]; rfl⟩ ?_
    dsimp only; rw [nI_1, nI_clamp (by omega), nI_clamp (by omega)]; omega
theorem sp_arcsAllM (hO : OKb B) (hM : MB sS B) {K : Int32 → Prop} (h : K (nI (sumc (fun c => cnt (ba B c) 1 9) (bN B)))) : Lp (F_X10_count_80 sS sL K) ((0 : Int32), (0 : Int32)) := by
  have hN := hO.1
  refine lp_ind (fun q => ∃ m, m ≤ bN B ∧ q = (nI (sumc (fun c => cnt (ba B c) 1 9) m), nI m)) (fun q => bN B - q.2.toNatClampNeg) ?_ _ ⟨0, by omega, rfl⟩
  rintro _ R ⟨m, hm, rfl⟩ hR
  unfold F_X10_count_80
  dsimp only
  rw [hM.1]
  constructor
  · intro c
    have := le3 (y := m) (b := bN B) (by omega) (by omega) c
    have : m = bN B := by omega
    subst this
    exact h
  · intro c
    have hm9 := nle3 (y := m) (b := bN B) (by omega) (by omega) c
    refine sp_arcsOf (l := 1) (by omega) (hM.2.2 m hm9).2.2 (by decide) ?_
    rintro _ rfl _ rfl
    refine hR _ ⟨m + 1, by omega, by rw [nI_add, nI_1]; rfl⟩ ?_
    dsimp only; rw [nI_1, nI_clamp (by omega), nI_clamp (by omega)]; omega
theorem sp_placesAll (hB : CB sB B) {K : Int32 → Prop} (h : K (nI (sumc (bp B) 4))) : wp_X1_placesOfAll sB K := by
  unfold wp_X1_placesOfAll
  refine lp_ind (fun q => ∃ m, m ≤ 4 ∧ q = (nI (sumc (bp B) m), nI m)) (fun q => 4 - q.2.toNatClampNeg) ?_ _ ⟨0, by omega, rfl⟩
  rintro _ R ⟨m, hm, rfl⟩ hR
  unfold F_X1_placesOfAll_4
  dsimp only
  constructor
  · intro c
    have := le3 (y := m) (b := 4) (by omega) (by omega) c
    have : m = 4 := by omega
    subst this
    exact h
  · intro c
    have hm9 := nle3 (y := m) (b := 4) (by omega) (by omega) c
    rw [nI_clamp (by omega), hB.2.1 m hm9]
    refine ⟨vp_in_nI (by omega) (by decide), ?_⟩
    rintro _ rfl _ rfl
    refine hR _ ⟨m + 1, by omega, by rw [nI_add, nI_1]; rfl⟩ ?_
    dsimp only; rw [nI_1, nI_clamp (by omega), nI_clamp (by omega)]; omega
theorem op_count (hO : OKb B) (hB : CB sB B) (hM : MB sS B) (hR : sR 1 0 = sS 7 0) (hT : sT 1 0 = sS 0 0) (hV : sV 0 0 = sS 9 0) {p : Int32} {K : Int32 → Int32 → Prop} (h : ∀ a, K a a) : wp_X9_count sX sT sB sD sR sK sM sJ sV sW p (fun a => wp_X10_count sS sL p (fun a' => K a a')) := by
  unfold wp_X9_count wp_X10_count
  refine ⟨fun e0 => ⟨fun _ => ?_, fun z => absurd e0 z⟩, fun n0 => ⟨fun e1 => ?_, fun n1 => ⟨fun e2 => ⟨fun z => absurd z n0, fun _ => ⟨fun z => absurd z n1, fun _ => ⟨fun _ => ?_, fun z => absurd e2 z⟩⟩⟩, fun n2 => ⟨fun e3 => ?_, fun n3 => ⟨fun e4 => ⟨fun z => absurd z n0, fun _ => ⟨fun z => absurd z n1, fun _ => ⟨fun z => absurd z n2, fun _ => ⟨fun z => absurd z n3, fun _ => ⟨fun _ => ?_, fun z => absurd e4 z⟩⟩⟩⟩⟩, fun n4 => ⟨fun e5 => ⟨fun z => absurd z n0, fun _ => ⟨fun z => absurd z n1, fun _ => ⟨fun z => absurd z n2, fun _ => ⟨fun z => absurd z n3, fun _ => ⟨fun z => absurd z n4, fun _ => ⟨fun _ => ?_, fun z => absurd e5 z⟩⟩⟩⟩⟩⟩, fun n5 => ⟨fun z => absurd z n0, fun _ => ⟨fun z => absurd z n1, fun _ => ⟨fun z => absurd z n2, fun _ => ⟨fun z => absurd z n3, fun _ => ⟨fun z => absurd z n4, fun _ => ⟨fun z => absurd z n5, fun _ => h _⟩⟩⟩⟩⟩⟩⟩⟩⟩⟩⟩⟩
  · rw [hB.1, hM.1]; exact h _
  · refine sp_placesAll hB ⟨fun z => absurd z n0, fun _ => ⟨fun _ => ?_, fun z => absurd e1 z⟩⟩
    rw [hM.2.1 0 (by decide), hM.2.1 1 (by decide), hM.2.1 2 (by decide), hM.2.1 3 (by decide), nI_add, nI_add, nI_add]
    have : sumc (bp B) 4 = bp B 0 + bp B 1 + bp B 2 + bp B 3 := by simp only [sumc]; omega
    rw [this]; exact h _
  · rw [hR]; exact h _
  · refine sp_arcsAllC hO hB ⟨fun z => absurd z n0, fun _ => ⟨fun z => absurd z n1, fun _ => ⟨fun z => absurd z n2, fun _ => ⟨fun _ => sp_arcsAllM hO hM (h _), fun z => absurd e3 z⟩⟩⟩⟩
  · rw [hT]; exact h _
  · rw [hV]; exact h _
end OPS3
