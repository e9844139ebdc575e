/-- an int that is a place below n -/
def IX (p : Int32) (n : Nat) : Prop := ∃ c, c < n ∧ p = nI c
theorem IX_iff {p : Int32} {n : Nat} (hn : n < 2 ^ 31) : IX p n ↔ 0 ≤ p.toInt ∧ p.toInt < n := by
  constructor
  · rintro ⟨c, hc, rfl⟩
    rw [nI_toInt (by omega)]
    omega
  · intro h
    exact vp_in_of (vp_in_iff.mpr h) hn
theorem cls_ix {p : Int32} {n : Nat} (hn : n < 2 ^ 31) {A B : Prop} (h1 : IX p n → A) (h0 : ¬ IX p n → B) : (p < 0 → B) ∧ (¬ p < 0 → ((nI n ≤ p → B) ∧ (¬ nI n ≤ p → A))) := by
  have z0 : (0 : Int32).toInt = 0 := by decide
  have zn := nI_toInt hn
  refine ⟨fun c => h0 (fun h => ?_), fun c => ⟨fun c2 => h0 (fun h => ?_), fun c2 => h1 ((IX_iff hn).mpr ?_)⟩⟩
  · rw [ilt] at c; have := (IX_iff hn).mp h; omega
  · rw [ile] at c2; have := (IX_iff hn).mp h; omega
  · rw [ilt] at c; rw [ile] at c2; omega
theorem sp_inI {p : Int32} {hi : Int64} {n : Nat} (hn : n < 2 ^ 31) (hh : hi.toInt = (n : Int) - 1) {K : Int32 → Prop} (h1 : IX p n → K 1) (h0 : ¬ IX p n → K 0) : wp_X10_in p.toInt64 (0 : Int64) hi K := by
  have z0 : (0 : Int64).toInt = 0 := by decide
  have zp := i2l_toInt p
  refine sp_in (fun h => h1 ((IX_iff hn).mpr ?_)) (fun h => h0 (fun h2 => h ?_))
  · omega
  · have := (IX_iff hn).mp h2; omega
theorem hi_sub {n : Nat} (hn : n < 2 ^ 30) : ((nI n - (1 : Int32)).toInt64).toInt = (n : Int) - 1 := by
  rw [i2l_toInt]
  exact pk_sub_toInt (b := 1) hn (by decide)
/-- calls: how many, places, from, to, arcs -/
abbrev BK : Type := Nat × (Nat → Nat) × (Nat → Nat) × (Nat → Nat) × (Nat → Nat)
abbrev bN (B : BK) : Nat := B.1
abbrev bp (B : BK) : Nat → Nat := B.2.1
abbrev bf (B : BK) : Nat → Nat := B.2.2.1
abbrev bt (B : BK) : Nat → Nat := B.2.2.2.1
abbrev ba (B : BK) : Nat → Nat := B.2.2.2.2
/-- what calls are -/
def OKb (B : BK) : Prop := bN B ≤ 8 ∧ (∀ a, a < 4 → bp B a ≤ 3) ∧ ∀ c, c < bN B → bf B c < 4 ∧ bt B c < 4 ∧ GW (ba B c) ∧ ∀ x y, x < 3 → y < 3 → dg (ba B c) (3 * x + y) ≠ 0 → x < bp B (bf B c) ∧ y < bp B (bt B c)
/-- the class's book holds them -/
def CB (sB : St) (B : BK) : Prop := sB 4 0 = nI (bN B) ∧ (∀ a, a < 4 → sB 0 a = nI (bp B a)) ∧ ∀ c, c < bN B → sB 1 c = nI (bf B c) ∧ sB 2 c = nI (bt B c) ∧ sB 3 c = nI (ba B c)
/-- the model holds them -/
def MB (sS : St) (B : BK) : Prop := sS 3 0 = nI (bN B) ∧ (∀ a, a < 4 → sS 2 a = nI (bp B a)) ∧ ∀ c, c < bN B → sS 4 c = nI (bf B c) ∧ sS 5 c = nI (bt B c) ∧ MA sS c (ba B c)
theorem GW.b31 {w : Nat} (h : GW w) : w < 2 ^ 31 := by have := h.1; omega
section BOOK
variable {B : BK} {sB sS : St} {sL : Int64}
theorem sp_hasCall (hO : OKb B) (hB : CB sB B) {p : Int32} {K : Int32 → Prop} (h1 : IX p (bN B) → K 1) (h0 : ¬ IX p (bN B) → K 0) : wp_X1_hasCall sB p K := by
  unfold wp_X1_hasCall
  rw [hB.1]
  have := hO.1
  exact cls_ix (by omega) h1 h0
theorem sp_isCall (hO : OKb B) (hM : MB sS B) {p : Int32} {K : Int32 → Prop} (h1 : IX p (bN B) → K 1) (h0 : ¬ IX p (bN B) → K 0) : wp_X10_isCall sS sL p K := by
  unfold wp_X10_isCall
  rw [hM.1]
  have := hO.1
  exact sp_inI (by omega) (hi_sub (by omega)) (fun h => ⟨zb_1, h1 h⟩) (fun h => ⟨zb_0, h0 h⟩)
/-- a pair of places of a call -/
def IP (B : BK) (p q r : Int32) : Prop := ∃ c x y, c < bN B ∧ x < bp B (bf B c) ∧ y < bp B (bt B c) ∧ p = nI c ∧ q = nI x ∧ r = nI y
theorem IX_nI {c n : Nat} (hc : c < 2 ^ 31) (hn : n < 2 ^ 31) (h : IX (nI c) n) : c < n := by
  obtain ⟨d, hd, e⟩ := h
  rw [nI_eq0 hc (by omega) e]
  exact hd
theorem sp_hasPair (hO : OKb B) (hB : CB sB B) {p q r : Int32} {K : Int32 → Prop} (h1 : IP B p q r → K 1) (h0 : ¬ IP B p q r → K 0) : wp_X1_hasPair sB p q r K := by
  unfold wp_X1_hasPair
  have hN := hO.1
  refine sp_hasCall hO hB (fun hc => ⟨fun e => absurd e (by decide), fun _ => ?_⟩) (fun hc => ⟨fun _ => h0 (fun ⟨c, x, y, h, _, _, e, _⟩ => hc ⟨c, h, e⟩), fun e => absurd rfl e⟩)
  obtain ⟨c, hcN, rfl⟩ := hc
  obtain ⟨f4, t4, gw, -⟩ := hO.2.2 c hcN
  obtain ⟨ef, et, ea⟩ := hB.2.2 c hcN
  have pf := hO.2.1 _ f4
  have pt := hO.2.1 _ t4
  have i8 : vp_in (nI c) 8 := vp_in_nI (by omega) (by decide)
  rw [nI_clamp (by omega), ef, et, nI_clamp (by omega), nI_clamp (by omega), hB.2.1 _ f4, hB.2.1 _ t4]
  have key : ∀ A : Prop, ((q < 0 → K 0) ∧ (¬ q < 0 → ((nI (bp B (bf B c)) ≤ q → K 0) ∧ (¬ nI (bp B (bf B c)) ≤ q → A)))) → (q < 0 → K 0) ∧ (¬ q < 0 → (vp_in (nI c) 8 ∧ (vp_in (nI (bf B c)) 4 ∧ ((nI (bp B (bf B c)) ≤ q → K 0) ∧ (¬ nI (bp B (bf B c)) ≤ q → A))))) := fun A h => ⟨h.1, fun z => ⟨i8, vp_in_nI f4 (by decide), h.2 z⟩⟩
  refine key _ (cls_ix (by omega) (fun hx => ?_) (fun hx => h0 ?_))
  · have key2 : ∀ A : Prop, ((r < 0 → K 0) ∧ (¬ r < 0 → ((nI (bp B (bt B c)) ≤ r → K 0) ∧ (¬ nI (bp B (bt B c)) ≤ r → A)))) → (r < 0 → K 0) ∧ (¬ r < 0 → (vp_in (nI c) 8 ∧ (vp_in (nI (bt B c)) 4 ∧ ((nI (bp B (bt B c)) ≤ r → K 0) ∧ (¬ nI (bp B (bt B c)) ≤ r → A))))) := fun A h => ⟨h.1, fun z => ⟨i8, vp_in_nI t4 (by decide), h.2 z⟩⟩
    refine key2 _ (cls_ix (by omega) (fun hy => h1 ?_) (fun hy => h0 ?_))
    · obtain ⟨x, hx1, hx2⟩ := hx
      obtain ⟨y, hy1, hy2⟩ := hy
      exact ⟨c, x, y, hcN, hx1, hy1, rfl, hx2, hy2⟩
    · rintro ⟨c2, x, y, g1, g2, g3, g4, g5, g6⟩
      have := nI_eq0 (by omega) (by omega) g4
      subst this
      exact hy ⟨y, g3, g6⟩
  · rintro ⟨c2, x, y, g1, g2, g3, g4, g5, g6⟩
    have := nI_eq0 (by omega) (by omega) g4
    subst this
    exact hx ⟨x, g2, g5⟩
theorem sp_isArc (hO : OKb B) (hM : MB sS B) {p q r : Int32} {K : Int32 → Prop} (h1 : IP B p q r → K 1) (h0 : ¬ IP B p q r → K 0) : wp_X10_isArc sS sL p q r K := by
  unfold wp_X10_isArc
  have hN := hO.1
  refine sp_isCall hO hM (fun hc => ⟨fun e => absurd e (by decide), fun _ => ?_⟩) (fun hc => ⟨fun _ => h0 (fun ⟨c, x, y, h, _, _, e, _⟩ => hc ⟨c, h, e⟩), fun e => absurd rfl e⟩)
  obtain ⟨c, hcN, rfl⟩ := hc
  obtain ⟨f4, t4, gw, -⟩ := hO.2.2 c hcN
  obtain ⟨ef, et, ea⟩ := hM.2.2 c hcN
  have pf := hO.2.1 _ f4
  have pt := hO.2.1 _ t4
  have i8 : vp_in (nI c) 8 := vp_in_nI (by omega) (by decide)
  rw [nI_clamp (by omega), ef, et, nI_clamp (by omega), nI_clamp (by omega), hM.2.1 _ f4, hM.2.1 _ t4]
  refine ⟨i8, vp_in_nI f4 (by decide), sp_inI (n := bp B (bf B c)) (by omega) (hi_sub (by omega)) (fun hx => ⟨fun e => absurd e (by decide), fun _ => ⟨i8, vp_in_nI t4 (by decide), sp_inI (n := bp B (bt B c)) (by omega) (hi_sub (by omega)) (fun hy => ⟨fun e => absurd e (by decide), fun _ => h1 ?_⟩) (fun hy => ⟨fun _ => h0 ?_, fun e => absurd rfl e⟩)⟩⟩) (fun hx => ⟨fun _ => h0 ?_, fun e => absurd rfl e⟩)⟩
  · obtain ⟨x, hx1, hx2⟩ := hx
    obtain ⟨y, hy1, hy2⟩ := hy
    exact ⟨c, x, y, hcN, hx1, hy1, rfl, hx2, hy2⟩
  · rintro ⟨c2, x, y, g1, g2, g3, g4, g5, g6⟩
    have := nI_eq0 (by omega) (by omega) g4
    subst this
    exact hy ⟨y, g3, g6⟩
  · rintro ⟨c2, x, y, g1, g2, g3, g4, g5, g6⟩
    have := nI_eq0 (by omega) (by omega) g4
    subst this
    exact hx ⟨x, g2, g5⟩
end BOOK
