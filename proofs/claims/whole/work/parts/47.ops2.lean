theorem cls_ix2 {p : Int32} {m : Nat} (hn : m < 2 ^ 30) {A B : Prop} (h1 : IX p (m + 1) → A) (h0 : ¬ IX p (m + 1) → B) : (p < 0 → B) ∧ (¬ p < 0 → ((p ≤ nI m → A) ∧ (¬ p ≤ nI m → B))) := by
  have z0 : (0 : Int32).toInt = 0 := by decide
  have zn := nI_toInt (n := m) (by omega)
  have hi := IX_iff (p := p) (n := m + 1) (by omega)
  refine ⟨fun c => h0 (fun h => ?_), fun c => ⟨fun c2 => h1 (hi.mpr ?_), fun c2 => h0 (fun h => ?_)⟩⟩
  · rw [ilt] at c; have := hi.mp h; omega
  · rw [ilt] at c; rw [ile] at c2; omega
  · rw [ile] at c2; have := hi.mp h; omega
/-- how many arcs, of at least l -/
def cnt (w l : Nat) : Nat → Nat
  | 0 => 0
  | m + 1 => cnt w l m + (if l ≤ dg w m then 1 else 0)
theorem cnt_le (w l m : Nat) : cnt w l m ≤ m := by
  induction m with
  | zero => simp [cnt]
  | succ m ih => simp only [cnt]; split <;> omega
theorem nlt_nI {a b : Nat} (ha : a < 2 ^ 31) (hb : b < 2 ^ 31) : nI a < nI b ↔ a < b := nI_ltI ha hb
theorem sp_howMany {w l : Nat} (hw : w < 262144) (hl : l < 4) {K : Int32 → Prop} (h : K (nI (cnt w l 9))) : wp_X0_howMany (nI w) (nI l) K := by
  unfold wp_X0_howMany
  refine lp_ind (fun q => ∃ m, m ≤ 9 ∧ q = (nI (cnt w l m), nI m)) (fun q => 9 - q.2.toNatClampNeg) ?_ _ ⟨0, by omega, rfl⟩
  rintro _ R ⟨m, hm, rfl⟩ hR
  unfold F_X0_howMany_4
  dsimp only
  constructor
  · intro c
    have := le3 (y := m) (b := 9) (by omega) (by omega) c
    have : m = 9 := by omega
    subst this
    exact h
  · intro c
    have hm9 := nle3 (y := m) (b := 9) (by omega) (by omega) c
    have e1 : (nI w >>> (((2 : Int32) * nI m) &&& 31)) &&& (3 : Int32) = nI (dg w m) := bits2 (by omega) (by omega)
    have hd := dg_lt w m
    rw [e1, nlt_nI (by omega) (by omega)]
    have hmu : ∀ a : Int32, a = nI (cnt w l (m + 1)) → R (a, nI m + 1) := by
      intro a ea
      refine hR _ ⟨m + 1, by omega, by rw [ea, nI_1]⟩ ?_
      dsimp only; rw [nI_1, nI_clamp (by omega), nI_clamp (by omega)]; omega
    constructor
    · intro c2
      rintro _ rfl
      exact hmu _ (by simp only [cnt]; rw [if_neg (by omega)]; rfl)
    · intro c2
      rintro _ rfl _ rfl
      exact hmu _ (by simp only [cnt]; rw [if_pos (by omega), nI_1])
theorem sp_arcsOf {sS : St} {sL : Int64} {i w l : Nat} (hi8 : i < 8) (ha : MA sS i w) (hl : l < 4) {K : Int32 → Prop} (h : K (nI (cnt w l 9))) : wp_X10_arcsOf sS sL (nI i) (nI l) K := by
  unfold wp_X10_arcsOf
  refine lp_ind (fun q => ∃ m, m ≤ 9 ∧ q = (nI (cnt w l m), nI m)) (fun q => 9 - q.2.toNatClampNeg) ?_ _ ⟨0, by omega, rfl⟩
  rintro _ R ⟨m, hm, rfl⟩ hR
  unfold F_X10_arcsOf_5
  dsimp only
  constructor
  · intro c
    have := le3 (y := m) (b := 9) (by omega) (by omega) c
    have : m = 9 := by omega
    subst this
    exact h
  · intro c
    have hm9 := nle3 (y := m) (b := 9) (by omega) (by omega) c
    have e1 : (9 : Int32) * nI i + nI m = nI (9 * i + m) := by rw [← nI_add, ← pk_mul]; rfl
    have hd := dg_lt w m
    rw [e1, nI_clamp (by omega), ha m hm9, nlt_nI (by omega) (by omega)]
    have hmu : ∀ a : Int32, a = nI (cnt w l (m + 1)) → R (a, nI m + 1) := by
      intro a ea
      refine hR _ ⟨m + 1, by omega, by rw [ea, nI_1]⟩ ?_
      dsimp only; rw [nI_1, nI_clamp (by omega), nI_clamp (by omega)]; omega
    refine ⟨vp_in_nI (by omega) (by decide), ?_, ?_⟩
    · intro c2
      rintro _ rfl _ rfl
      exact hmu _ (by simp only [cnt]; rw [if_neg (by omega), show (0 : Int32) = nI 0 from rfl, nI_add])
    · intro c2
      rintro _ rfl _ rfl
      exact hmu _ (by simp only [cnt]; rw [if_pos (by omega), nI_1])
/-- arcs from a place to the same one -/
def slf (w : Nat) : Nat → Nat
  | 0 => 0
  | m + 1 => slf w m + (if dg w (4 * m) = 0 then 0 else 1)
theorem slf_le (w m : Nat) : slf w m ≤ m := by
  induction m with
  | zero => simp [slf]
  | succ m ih => simp only [slf]; split <;> omega
theorem nI_z {a : Nat} (ha : a < 2 ^ 31) : nI a = 0 ↔ a = 0 := nI_eq (b := 0) ha (by decide)
theorem sp_toThemselves {w : Nat} (hw : w < 262144) {K : Int32 → Prop} (h : K (nI (slf w 3))) : wp_X0_howManyToThemselves (nI w) K := by
  unfold wp_X0_howManyToThemselves
  refine lp_ind (fun q => ∃ m, m ≤ 3 ∧ q = (nI (slf w m), nI m)) (fun q => 3 - q.2.toNatClampNeg) ?_ _ ⟨0, by omega, rfl⟩
  rintro _ R ⟨m, hm, rfl⟩ hR
  unfold F_X0_howManyToThemselves_4
  dsimp only
  constructor
  · intro c
    have := le3 (y := m) (b := 3) (by omega) (by omega) c
    have : m = 3 := by omega
    subst this
    exact h
  · intro c
    have hm9 := nle3 (y := m) (b := 3) (by omega) (by omega) c
    refine sp_at (by omega) hm9 hm9 ?_
    have hd := dg_lt w (3 * m + m)
    rw [nI_z (by omega), show 3 * m + m = 4 * m by omega]
    have hmu : ∀ a : Int32, a = nI (slf w (m + 1)) → R (a, nI m + 1) := by
      intro a ea
      refine hR _ ⟨m + 1, by omega, by rw [ea, nI_1]⟩ ?_
      dsimp only; rw [nI_1, nI_clamp (by omega), nI_clamp (by omega)]; omega
    constructor
    · intro c2
      rintro _ rfl
      exact hmu _ (by simp only [slf]; rw [if_pos c2]; rfl)
    · intro c2
      rintro _ rfl _ rfl
      exact hmu _ (by simp only [slf]; rw [if_neg c2, nI_1])
section OPS2
variable {B : BK} {sX sT sB sD sR sK sM sJ sV sS : St} {sW sL : Int64}
/-- the calls with an arc put -/
def putB (B : BK) (c i v : Nat) : BK := (bN B, bp B, bf B, bt B, up (ba B) c (sd (ba B c) i v))
theorem putB_ok (hO : OKb B) {c x y v : Nat} (hx : x < bp B (bf B c)) (hy : y < bp B (bt B c)) (hv : v ≤ 2) (hc : c < bN B) : OKb (putB B c (3 * x + y) v) := by
  refine ⟨hO.1, hO.2.1, fun d hd => ?_⟩
  obtain ⟨f4, t4, gw, hz⟩ := hO.2.2 d hd
  have px := hO.2.1 _ (hO.2.2 c hc).1
  have py := hO.2.1 _ (hO.2.2 c hc).2.1
  by_cases e : d = c
  · subst e
    refine ⟨f4, t4, ?_, fun a b ha hb hne => ?_⟩
    · show GW (up (ba B) d (sd (ba B d) (3 * x + y) v) d)
      rw [up_s]; exact sd_GW gw hv
    · have hne : dg (up (ba B) d (sd (ba B d) (3 * x + y) v) d) (3 * a + b) ≠ 0 := hne
      rw [up_s, sd_dg (by omega) _ (by omega)] at hne
      by_cases e2 : 3 * a + b = 3 * x + y
      · have e3 : a = x := by omega
        have e4 : b = y := by omega
        subst e3; subst e4; exact ⟨hx, hy⟩
      · rw [if_neg e2] at hne
        exact hz a b ha hb hne
  · refine ⟨f4, t4, ?_, ?_⟩
    · show GW (up (ba B) c (sd (ba B c) (3 * x + y) v) d)
      rw [up_n e]; exact gw
    · show ∀ a b, a < 3 → b < 3 → dg (up (ba B) c (sd (ba B c) (3 * x + y) v) d) (3 * a + b) ≠ 0 → _
      rw [up_n e]; exact hz
theorem putB_C (hB : CB sB B) {c i v : Nat} (hc : c < 2 ^ 31) : CB (ua sB 3 (nI c) (nI (sd (ba B c) i v))) (putB B c i v) := by
  refine ⟨by rw [ua_n (by decide)]; exact hB.1, fun a ha => by rw [ua_n (by decide)]; exact hB.2.1 a ha, fun d hd => ?_⟩
  obtain ⟨h1, h2, h3⟩ := hB.2.2 d hd
  rw [ua_n (by decide), ua_n (by decide), ua_s, nI_clamp hc]
  refine ⟨h1, h2, ?_⟩
  show upd (sB 3) c (nI (sd (ba B c) i v)) d = nI (up (ba B) c (sd (ba B c) i v) d)
  by_cases e : d = c
  · subst e; rw [pk_us, up_s]
  · rw [pk_un e, up_n e]; exact h3
theorem putB_M (hM : MB sS B) {c i v : Nat} (hN : bN B ≤ 8) (hc : c < bN B) (hi : i < 9) (hv : v < 4) : MB (ua sS 6 (nI (9 * c + i)) (nI v)) (putB B c i v) := by
  refine ⟨by rw [ua_n (by decide)]; exact hM.1, fun a ha => by rw [ua_n (by decide)]; exact hM.2.1 a ha, fun d hd => ?_⟩
  obtain ⟨h1, h2, h3⟩ := hM.2.2 d hd
  rw [ua_n (by decide), ua_n (by decide)]
  refine ⟨h1, h2, fun k hk => ?_⟩
  have hd8 : d < bN B := hd
  rw [ua_s, nI_clamp (by omega)]
  show upd (sS 6) (9 * c + i) (nI v) (9 * d + k) = nI (dg (up (ba B) c (sd (ba B c) i v) d) k)
  by_cases e : d = c
  · subst e
    rw [up_s, sd_dg hv k hk]
    by_cases e2 : k = i
    · subst e2; rw [pk_us, if_pos rfl]
    · rw [pk_un (by omega), if_neg e2]; exact h3 k hk
  · rw [pk_un (by omega), up_n e]; exact h3 k hk
theorem op_put (hO : OKb B) (hB : CB sB B) (hM : MB sS B) {p q r v : Int32} {K : Int32 → (St × St × St) → Int32 → St → Prop} (h : ∀ a, K a (sX, sB, sM) a sS)
    (hp : ∀ (a : Int32) (B' : BK) (sB' sS' : St), OKb B' → CB sB' B' → MB sS' B' → bN B' = bN B → (∀ k, k ≠ 6 → sS' k = sS k) → K a (us sX 8 0, sB', us (us sM 3 (-1)) 6 0) a sS') : wp_X9_put sX sT sB sD sR sK sM sJ sV sW p q r v (fun a u => wp_X10_put sS sL p q r v (fun a' u' => K a u a' u')) := by
  unfold wp_X9_put wp_X10_put
  have hN := hO.1
  have hm : ∀ (X : Int32 → Prop), (IX v 3 → X 1) → (¬ IX v 3 → X 0) → wp_X10_in v.toInt64 (0 : Int64) (2 : Int64) X := fun X a b => sp_inI (n := 3) (by decide) (by decide) a b
  refine sp_hasPair hO hB (fun hip => ⟨fun e => absurd e (by decide), fun _ => ?_⟩) (fun hip => ⟨fun _ => ?_, fun e => absurd rfl e⟩)
  · refine cls_ix2 (m := 2) (by decide) (fun hv => ?_) (fun hv => ?_)
    · have hip' := hip
      have hv' := hv
      obtain ⟨c, x, y, hcN, hx, hy, rfl, rfl, rfl⟩ := hip
      obtain ⟨d, hd, rfl⟩ := hv
      obtain ⟨f4, t4, gw, -⟩ := hO.2.2 c hcN
      obtain ⟨ef, et, ea⟩ := hB.2.2 c hcN
      obtain ⟨mf, mt, ma⟩ := hM.2.2 c hcN
      have px := hO.2.1 _ f4
      have py := hO.2.1 _ t4
      have i8 : vp_in (nI c) 8 := vp_in_nI (by omega) (by decide)
      rw [nI_clamp (by omega), ea]
      refine ⟨i8, sp_at gw.b31 (by omega) (by omega) ⟨i8, sp_with gw.1 (by omega) (by omega) (by omega) ⟨i8, ?_⟩⟩⟩
      rintro _ rfl
      unfold wp_X9_forgetWhatFollows wp_X4_forget
      rintro _ rfl _ rfl _ rfl
      refine sp_isArc hO hM (fun _ => ⟨fun e => absurd e (by decide), fun _ => ?_⟩) (fun z => absurd hip' z)
      refine hm _ (fun _ => ⟨fun e => absurd e (by decide), fun _ => ?_⟩) (fun z => absurd hv' z)
      rw [ip_ix (p1 := 0) (by omega) (by omega) (by omega), nI_clamp (by omega), ma _ (by omega)]
      refine ⟨vp_in_nI (by omega) (by decide), ?_⟩
      rintro _ rfl
      refine ⟨vp_in_nI (by omega) (by decide), ?_⟩
      rintro _ rfl
      exact hp _ (putB B c (3 * x + y) d) _ _ (putB_ok hO hx hy (by omega) hcN) (putB_C hB (by omega)) (putB_M hM hN hcN (by omega) (by omega)) rfl (fun k hk => ua_n hk)
    · refine sp_isArc hO hM (fun _ => ⟨fun e => absurd e (by decide), fun _ => ?_⟩) (fun z => absurd hip z)
      exact hm _ (fun z => absurd z hv) (fun _ => ⟨fun _ => h _, fun e => absurd rfl e⟩)
  · exact sp_isArc hO hM (fun z => absurd z hip) (fun _ => ⟨fun _ => h _, fun e => absurd rfl e⟩)
theorem op_most {M : Nat} (hV : sV 0 0 = nI M) (hS : sS 9 0 = nI M) {p : Int32} {K : Int32 → St → Int32 → St → Prop} (h : ∀ a, K a sV a sS) (hp : ∀ m, m ≤ 3 → K (nI M) (us sV 0 (nI m)) (nI M) (us sS 9 (nI m))) : wp_X9_most sX sT sB sD sR sK sM sJ sV sW p (fun a u => wp_X10_most sS sL p (fun a' u' => K a u a' u')) := by
  unfold wp_X9_most wp_X10_most
  have hm : ∀ (X : Int32 → Prop), (IX p 4 → X 1) → (¬ IX p 4 → X 0) → wp_X10_in p.toInt64 (0 : Int64) (3 : Int64) X := fun X a b => sp_inI (n := 4) (by decide) (by decide) a b
  refine cls_ix2 (m := 3) (by decide) (fun hv => ?_) (fun hv => hm _ (fun z => absurd z hv) (fun _ => ⟨fun _ => h _, fun e => absurd rfl e⟩))
  have hv' := hv
  obtain ⟨d, hd, rfl⟩ := hv
  rintro _ rfl _ rfl
  refine hm _ (fun _ => ⟨fun e => absurd e (by decide), fun _ => ?_⟩) (fun z => absurd hv' z)
  rintro _ rfl _ rfl
  rw [hV, hS]
  exact hp d (by omega)
end OPS2
