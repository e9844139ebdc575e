theorem us_s {s : St} {k : Nat} {v : Int32} : us s k v k = fun _ => v := up_s
theorem us_n {s : St} {k j : Nat} {v : Int32} (h : j ≠ k) : us s k v j = s j := up_n h
theorem ua_s {s : St} {k : Nat} {i v : Int32} : ua s k i v k = upd (s k) i.toNatClampNeg v := up_s
theorem ua_n {s : St} {k j : Nat} {i v : Int32} (h : j ≠ k) : ua s k i v j = s j := up_n h
theorem uf_s {s : St} {k n : Nat} {v : Int32} : uf s k n v k = fun j => if j < n then v else s k j := up_s
theorem uf_n {s : St} {k j n : Nat} {v : Int32} (h : j ≠ k) : uf s k n v j = s j := up_n h
theorem uc_s {s : St} {k : Nat} {f : Nat → Int32} {sp dp n : Int32} : uc s k f sp dp n k = va_cpy f (s k) sp.toNatClampNeg dp.toNatClampNeg n.toNatClampNeg := up_s
theorem uc_n {s : St} {k j : Nat} {f : Nat → Int32} {sp dp n : Int32} (h : j ≠ k) : uc s k f sp dp n j = s j := up_n h
section OPS
variable {B : BK} {sX sT sB sD sR sK sM sJ sV sS : St} {sW sL : Int64}
theorem sp_isActC {p : Int32} {K : Int32 → Prop} (h1 : IX p 4 → K 1) (h0 : ¬ IX p 4 → K 0) : wp_X9_isAct p K := by
  unfold wp_X9_isAct
  exact cls_ix (n := 4) (by decide) h1 h0
theorem sp_isActM {p : Int32} {K : Int32 → Prop} (h1 : IX p 4 → K 1) (h0 : ¬ IX p 4 → K 0) : wp_X10_isAct p K := by
  unfold wp_X10_isAct
  exact sp_inI (n := 4) (by decide) (by decide) (fun h => ⟨zb_1, h1 h⟩) (fun h => ⟨zb_0, h0 h⟩)
theorem op_places (hB : CB sB B) (hM : MB sS B) {p : Int32} {K : Int32 → Int32 → Prop} (h : ∀ r, K r r) : wp_X9_places sX sT sB sD sR sK sM sJ sV sW p (fun r => wp_X10_places sS sL p (fun r' => K r r')) := by
  unfold wp_X9_places wp_X10_places
  refine sp_isActC (fun ha => ⟨fun e => absurd e (by decide), fun _ => ?_⟩) (fun ha => ⟨fun _ => ?_, fun e => absurd rfl e⟩)
  · obtain ⟨a, h4, rfl⟩ := ha
    refine ⟨vp_in_nI h4 (by decide), sp_isActM (fun _ => ⟨fun e => absurd e (by decide), fun _ => ⟨vp_in_nI h4 (by decide), ?_⟩⟩) (fun z => absurd ⟨a, h4, rfl⟩ z)⟩
    rw [nI_clamp (by omega), hB.2.1 a h4, hM.2.1 a h4]
    exact h _
  · exact sp_isActM (fun z => absurd z ha) (fun _ => ⟨fun _ => h _, fun e => absurd rfl e⟩)
theorem op_call (hO : OKb B) (hB : CB sB B) (hM : MB sS B) {p q : Int32} {K : Int32 → Int32 → Prop} (h : ∀ r, K r r) : wp_X9_call sX sT sB sD sR sK sM sJ sV sW p q (fun r => wp_X10_call sS sL p q (fun r' => K r r')) := by
  unfold wp_X9_call wp_X10_call
  have hN := hO.1
  refine sp_hasCall hO hB (fun hc => ⟨fun e => absurd e (by decide), fun _ => ?_⟩) (fun hc => ⟨fun _ => ?_, fun e => absurd rfl e⟩)
  · obtain ⟨c, hcN, rfl⟩ := hc
    obtain ⟨f4, t4, gw, -⟩ := hO.2.2 c hcN
    obtain ⟨ef, et, ea⟩ := hB.2.2 c hcN
    obtain ⟨mf, mt, ma⟩ := hM.2.2 c hcN
    have gb := gw.1
    have i8 : vp_in (nI c) 8 := vp_in_nI (by omega) (by decide)
    rw [nI_clamp (by omega), ef, et, ea]
    have hm : ∀ (X : Int32 → Prop) (z : Prop), (IX q 3 → X 1) → (¬ IX q 3 → X 0) → wp_X10_in q.toInt64 (0 : Int64) (2 : Int64) X := fun X z a b => sp_inI (n := 3) (by decide) (by decide) a b
    refine ⟨fun e0 => ⟨i8, ?_⟩, fun n0 => ⟨fun e1 => ⟨i8, ?_⟩, fun n1 => ⟨fun e2 => ⟨i8, ?_⟩, fun n2 => ?_⟩⟩⟩
    · refine sp_isCall hO hM (fun _ => ⟨fun e => absurd e (by decide), fun _ => ?_⟩) (fun z => absurd ⟨c, hcN, rfl⟩ z)
      refine hm _ True (fun _ => ⟨fun e => absurd e (by decide), fun _ => ⟨fun _ => ⟨i8, ?_⟩, fun z => absurd e0 z⟩⟩) (fun z => absurd ⟨0, by decide, e0⟩ z)
      rw [mf]; exact h _
    · refine sp_isCall hO hM (fun _ => ⟨fun e => absurd e (by decide), fun _ => ?_⟩) (fun z => absurd ⟨c, hcN, rfl⟩ z)
      refine hm _ True (fun _ => ⟨fun e => absurd e (by decide), fun _ => ⟨fun z => absurd z n0, fun _ => ⟨fun _ => ⟨i8, ?_⟩, fun z => absurd e1 z⟩⟩⟩) (fun z => absurd ⟨1, by decide, e1⟩ z)
      rw [mt]; exact h _
    · refine sp_toNumber gb ?_
      refine sp_isCall hO hM (fun _ => ⟨fun e => absurd e (by decide), fun _ => ?_⟩) (fun z => absurd ⟨c, hcN, rfl⟩ z)
      refine hm _ True (fun _ => ⟨fun e => absurd e (by decide), fun _ => ⟨fun z => absurd z n0, fun _ => ⟨fun z => absurd z n1, fun _ => ?_⟩⟩⟩) (fun z => absurd ⟨2, by decide, e2⟩ z)
      exact sp_numberOf (by omega) gw ma (h _)
    · refine sp_isCall hO hM (fun _ => ⟨fun e => absurd e (by decide), fun _ => ?_⟩) (fun z => absurd ⟨c, hcN, rfl⟩ z)
      refine hm _ True (fun z => absurd z ?_) (fun _ => ⟨fun _ => h _, fun e => absurd rfl e⟩)
      rintro ⟨d, hd, rfl⟩
      match d, hd with
      | 0, _ => exact n0 rfl
      | 1, _ => exact n1 rfl
      | 2, _ => exact n2 rfl
      | d + 3, g => exact absurd g (by omega)
  · exact sp_isCall hO hM (fun z => absurd z hc) (fun _ => ⟨fun _ => h _, fun e => absurd rfl e⟩)
theorem ip_ix {p1 x y c : Nat} (hc : c < 8) (hx : x < 3) (hy : y < 3) : ((9 : Int32) * nI c + (3 : Int32) * nI x) + nI y = nI (9 * c + (3 * x + y)) := by
  rw [show (9 : Int32) * nI c = nI (9 * c) by rw [← pk_mul]; rfl, show (3 : Int32) * nI x = nI (3 * x) by rw [← pk_mul]; rfl, nI_add, nI_add]
  congr 1
  omega
theorem op_arc (hO : OKb B) (hB : CB sB B) (hM : MB sS B) {p q r : Int32} {K : Int32 → Int32 → Prop} (h : ∀ r, K r r) : wp_X9_arc sX sT sB sD sR sK sM sJ sV sW p q r (fun a => wp_X10_arc sS sL p q r (fun a' => K a a')) := by
  unfold wp_X9_arc wp_X10_arc
  have hN := hO.1
  refine sp_hasPair hO hB (fun hip => ⟨fun e => absurd e (by decide), fun _ => ?_⟩) (fun hip => ⟨fun _ => ?_, fun e => absurd rfl e⟩)
  · have hip' := hip
    obtain ⟨c, x, y, hcN, hx, hy, rfl, rfl, rfl⟩ := hip
    obtain ⟨f4, t4, gw, -⟩ := hO.2.2 c hcN
    obtain ⟨ef, et, ea⟩ := hB.2.2 c hcN
    obtain ⟨mf, mt, ma⟩ := hM.2.2 c hcN
    have px := hO.2.1 _ f4
    have py := hO.2.1 _ t4
    rw [nI_clamp (by omega), ea]
    refine ⟨vp_in_nI (by omega) (by decide), sp_at gw.b31 (by omega) (by omega) ?_⟩
    refine sp_isArc hO hM (fun _ => ⟨fun e => absurd e (by decide), fun _ => ?_⟩) (fun z => absurd hip' z)
    rw [ip_ix (p1 := 0) (by omega) (by omega) (by omega), nI_clamp (by omega), ma _ (by omega)]
    exact ⟨vp_in_nI (by omega) (by decide), h _⟩
  · exact sp_isArc hO hM (fun z => absurd z hip) (fun _ => ⟨fun _ => h _, fun e => absurd rfl e⟩)
theorem op_together (hp : PW sS) {p q : Int32} {K : Int32 → Int32 → Prop} (h : ∀ r, K r r) : wp_X9_together sX sT sB sD sR sK sM sJ sV sW p q (fun r => wp_X10_together sS sL p q (fun r' => K r r')) := by
  unfold wp_X9_together wp_X10_together
  have hz : ∀ (a : Int32) (X : Int32 → Prop), (IX a 19683 → X 1) → (¬ IX a 19683 → X 0) → wp_X0_isNumber a X := fun a X h1 h0 => by
    refine sp_isNumber ?_
    by_cases hi : IX a 19683
    · rw [if_pos (by have := (IX_iff (by decide)).mp hi; omega)]; exact h1 hi
    · rw [if_neg (fun z => hi ((IX_iff (by decide)).mpr (by omega)))]; exact h0 hi
  have hm : ∀ (a : Int32) (X : Int32 → Prop), (IX a 19683 → X 1) → (¬ IX a 19683 → X 0) → wp_X10_in a.toInt64 (0 : Int64) (19682 : Int64) X := fun a X h1 h0 => sp_inI (n := 19683) (by decide) (by decide) h1 h0
  refine hz _ _ (fun i1 => ⟨fun e => absurd e (by decide), fun _ => hz _ _ (fun i2 => ⟨fun e => absurd e (by decide), fun _ => ?_⟩) (fun i2 => ⟨fun _ => ?_, fun e => absurd rfl e⟩)⟩) (fun i1 => ⟨fun _ => ?_, fun e => absurd rfl e⟩)
  · have j1 := i1
    have j2 := i2
    obtain ⟨a, ha, rfl⟩ := i1
    obtain ⟨b, hb, rfl⟩ := i2
    refine sp_fromNumber ha (sp_fromNumber hb (sp_join (wn_GW a) (wn_GW b) (sp_toNumber (jw_GW _ _).1 ?_)))
    refine hm _ _ (fun _ => ⟨fun e => absurd e (by decide), fun _ => hm _ _ (fun _ => ⟨fun e => absurd e (by decide), fun _ => ?_⟩) (fun z => absurd j2 z)⟩) (fun z => absurd j1 z)
    have hh := sp_put2 (sL := sL) hp (wn_GW a) (wn_GW b) (K := fun r5 => K (nI (gn (jw (wn a) (wn b)))) r5) (h _)
    rw [gn_wn ha, gn_wn hb] at hh
    exact hh
  · exact hm _ _ (fun _ => ⟨fun e => absurd e (by decide), fun _ => hm _ _ (fun z => absurd z i2) (fun _ => ⟨fun _ => h _, fun e => absurd rfl e⟩)⟩) (fun z => absurd i1 z)
  · exact hm _ _ (fun z => absurd z i1) (fun _ => ⟨fun _ => h _, fun e => absurd rfl e⟩)
end OPS
