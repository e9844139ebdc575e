/-! ===== the fewest calls without which all must end ===== -/
def pcn (s : Nat) : Nat := s % 2 + s / 2 % 2 + s / 4 % 2 + s / 8 % 2 + s / 16 % 2 + s / 32 % 2 + s / 64 % 2 + s / 128 % 2
theorem pcn_ok : ∀ s, s < 256 → s ≠ 0 → nI s &&& (nI s - 1) = nI (s &&& (s - 1)) ∧ (s &&& (s - 1)) < s ∧ pcn (s &&& (s - 1)) + 1 = pcn s := by decide +kernel
theorem pcn_le (s : Nat) : pcn s ≤ 8 := by unfold pcn; omega
theorem pcn_full : ∀ n, n < 9 → ∀ s, s < 2 ^ n → n ≤ pcn s → s = 2 ^ n - 1 := by decide +kernel
theorem sp_bits {s : Nat} (hs : s < 256) {K : Int32 → Prop} (h : K (nI (pcn s))) : wp_X10_bits (nI s) K := by
  unfold wp_X10_bits
  refine lp_ind (fun q => ∃ k c, k < 256 ∧ c + pcn k = pcn s ∧ q = (nI c, nI k)) (fun q => q.2.toNatClampNeg) ?_ _ ⟨s, 0, hs, by omega, rfl⟩
  rintro _ R ⟨k, c, hk, hc, rfl⟩ hR
  unfold F_X10_bits_4
  dsimp only
  rw [nI_z (by omega)]
  refine ⟨fun e => ?_, fun e => ?_⟩
  · subst e
    have : c = pcn s := by simp [pcn] at hc; exact hc
    rw [this]; exact h
  · obtain ⟨p1, p2, p3⟩ := pcn_ok k hk e
    rintro _ rfl _ rfl
    rw [p1, nI_1]
    refine hR _ ⟨k &&& (k - 1), c + 1, by omega, by omega, rfl⟩ ?_
    dsimp only; rw [nI_clamp (by omega), nI_clamp (by omega)]; exact p2
def bc1 (p : Int32) : Int32 := p - ((p.toUInt32 >>> ((1 : Int32).toUInt32 &&& Int32.toUInt32 31)).toInt32 &&& (1431655765 : Int32))
def bc2 (y : Int32) : Int32 := (y &&& (858993459 : Int32)) + ((y.toUInt32 >>> ((2 : Int32).toUInt32 &&& Int32.toUInt32 31)).toInt32 &&& (858993459 : Int32))
def bc3 (y : Int32) : Int32 := (y + (y.toUInt32 >>> ((4 : Int32).toUInt32 &&& Int32.toUInt32 31)).toInt32) &&& (252645135 : Int32)
def bc4 (y : Int32) : Int32 := y + (y.toUInt32 >>> ((8 : Int32).toUInt32 &&& Int32.toUInt32 31)).toInt32
def bc5 (y : Int32) : Int32 := y + (y.toUInt32 >>> ((16 : Int32).toUInt32 &&& Int32.toUInt32 31)).toInt32
theorem bc_ok : ∀ s, s < 256 → bc5 (bc4 (bc3 (bc2 (bc1 (nI s))))) &&& (63 : Int32) = nI (pcn s) := by decide +kernel
theorem sp_bitCount {s : Nat} (hs : s < 256) {K : Int32 → Prop} (h : K (nI (pcn s))) : wp_J6_bitCount_0f7a4 (nI s) K := by
  unfold wp_J6_bitCount_0f7a4
  intro y1 e1 y2 e2 y3 e3 y4 e4 y5 e5
  have f1 : y1 = bc1 (nI s) := e1
  have f2 : y2 = bc2 y1 := e2
  have f3 : y3 = bc3 y2 := e3
  have f4 : y4 = bc4 y3 := e4
  have f5 : y5 = bc5 y4 := e5
  rw [f5, f4, f3, f2, f1, bc_ok s hs]
  exact h
/-- the least set that mends -/
def LSt (B : BK) (S : Nat) : Prop := S < 2 ^ bN B ∧ GD B S = true ∧ ∀ S', S' < 2 ^ bN B → GD B S' = true → pcn S < pcn S' ∨ (pcn S = pcn S' ∧ S ≤ S')
theorem LSt.uni {B : BK} {S S' : Nat} (h : LSt B S) (h' : LSt B S') : S = S' := by
  have a := h.2.2 S' h'.1 h'.2.1
  have b := h'.2.2 S h.1 h.2.1
  omega
theorem p256 {n : Nat} (h : n ≤ 8) : 2 ^ n ≤ 256 ∧ 0 < 2 ^ n := ⟨Nat.pow_le_pow_right (by decide) h, Nat.two_pow_pos n⟩
theorem full_ok : ∀ n, n < 9 → ∀ c, c < n → (2 ^ n - 1) / 2 ^ c % 2 = 1 := by decide +kernel
theorem shl1 {n : Nat} (h : n ≤ 8) : (1 : Int32) <<< (nI n &&& 31) = nI (2 ^ n) := by
  have := shl_nI (w := 1) (k := n) (by omega) (by have := (p256 h).1; omega)
  rw [Nat.one_mul] at this
  exact this
section MEND
variable {B : BK} {sX sT sB sD sR sK sM sJ sV : St} {sW : Int64} {sS : St} {sL : Int64} {t : Nat}
theorem GD_full (hO : OKb B) : GD B (2 ^ bN B - 1) = true := by
  have hN := hO.1
  have h1 : ∀ m, m ≤ bN B → iN B (2 ^ bN B - 1) m = ([], false) := by
    intro m
    induction m with
    | zero => intro _; rfl
    | succ m ih =>
      intro hm
      simp only [iN]
      rw [if_pos (full_ok _ (by omega) m (by omega))]
      exact ih (by omega)
  have h2 : ∀ k, gN B (2 ^ bN B - 1) k = ([], false) := by
    intro k
    induction k with
    | zero => exact h1 _ (Nat.le_refl _)
    | succ k ih => simp only [gN]; rw [ih]; rfl
  rw [GD_iff]
  intro x hx
  have h3 : BF B (2 ^ bN B - 1) = ([], false) := h2 1000
  rw [h3] at hx
  simp at hx
theorem gN_in {out : Nat} {x : Nd} : ∀ d k, x ∈ (gN B out k).1 → x ∈ (gN B out (k + d)).1 := by
  intro d
  induction d with
  | zero => intro k h; exact h
  | succ d ih =>
    intro k h
    obtain ⟨l, el⟩ := gN_pre (B := B) (out := out) (k + d)
    rw [← Nat.add_assoc, el]
    exact List.mem_append_left _ (ih k h)
theorem and_dis {a b : Nat} (h : a &&& b = 0) (c : Nat) (ha : a / 2 ^ c % 2 = 1) : ¬ b / 2 ^ c % 2 = 1 := by
  intro hb
  have e : (a &&& b).testBit c = true := by
    rw [Nat.testBit_and, Nat.testBit_eq_decide_div_mod_eq, Nat.testBit_eq_decide_div_mod_eq, decide_eq_true ha, decide_eq_true hb]; rfl
  rw [h, Nat.zero_testBit] at e
  cases e
/-- ways known to be BAD, by their calls -/
def BWS (B : BK) (sM : St) : Prop := ∃ b, b ≤ 256 ∧ sM 2 0 = nI b ∧ ∀ i, i < b → ∃ S n x, S < 256 ∧ sM 1 i = nI S ∧ WG B S n x ∧ badb x = true
theorem sp_mends (hO : OKb B) (hB : CB sB B) (hf : (BF B 0).2 = false) (hJ : JC sJ) (hW : BWS B sM) {o : Nat} (ho : o < 256) {K : Int32 → (St × St) → Prop} (h : ∀ sM' sJ', JC sJ' → BWS B sM' → (∀ q, q ≠ 1 → q ≠ 2 → sM' q = sM q) → K (bi (GD B o)) (sM', sJ')) : wp_X4_mends sM sJ sB (nI o) K := by
  unfold wp_X4_mends
  obtain ⟨b, hb, e2, hS⟩ := id hW
  obtain ⟨sf, sI⟩ := BF_sub hO hf o
  have hCL := BF_all hO sf
  have bad : ∀ x, x ∈ (BF B o).1 → badb x = true → GD B o = false := by
    intro x hx hbx
    cases e : GD B o with
    | false => rfl
    | true =>
      have := GD_iff.mp e x hx
      rw [hbx] at this; cases this
  refine lp_ind (fun q => ∃ i, i ≤ b ∧ q = nI i) (fun q => b - q.toNatClampNeg) ?_ _ ⟨0, by omega, rfl⟩
  rintro _ R ⟨i, hi, rfl⟩ hR
  unfold F_X4_mends_2
  rw [e2]
  constructor
  · intro _
    refine sp_grow (out := o) (stop := true) hO hB ho hJ (fun s hs => ?_)
    obtain ⟨k, hk, hC, hor⟩ := hs
    have hJ' : JC s := hC.2.2.1
    rcases hor with ⟨g1, g2, g3, g4⟩ | ⟨-, x, g1, g2, g3⟩
    · have h10 := g4 rfl
      rw [h10]
      refine ⟨fun z => absurd z (by decide), fun _ => ?_⟩
      have hgd : GD B o = true := by
        rw [GD_iff]
        intro x hx
        obtain ⟨j, hj⟩ := List.getElem?_of_mem hx
        rw [← g1] at hj
        have hjl := (List.getElem?_eq_some_iff.mp hj).1
        rcases g2.1 with ⟨-, a2⟩ | ⟨j', y, a1, a2, a3, a4, a5⟩
        · refine a2 j x ?_ hj
          rcases g3 with z | z
          · rw [g1, sf] at z; cases z
          · omega
        · rw [h10] at a4
          exact absurd a4.symm (nI_neg (by omega))
      have := h sM s hJ' hW (fun _ _ _ => rfl)
      rw [hgd] at this
      exact this
    · have hkl := (List.getElem?_eq_some_iff.mp g1).1
      have hSI := gN_SI hO o k
      have hl : (gN B o k).1.length ≤ 1000 := hSI.1
      have hgd : GD B o = false := by
        refine bad x ?_ g2
        have := gN_in (1000 - k) k (List.mem_of_getElem? g1)
        rw [show k + (1000 - k) = 1000 by omega] at this
        exact this
      rw [hgd] at h
      rw [g3, show (256 : Int32) = nI 256 from rfl, nI_leI (by decide) (by omega)]
      refine ⟨fun _ => ⟨fun _ => h sM s hJ' hW (fun _ _ _ => rfl), fun c2 => ?_⟩, fun z => absurd (nI_pos' (by omega)) z⟩
      obtain ⟨PC, hTR, -⟩ := hC.2.1.tre
      obtain ⟨n, w, hn, hd⟩ := DW_ex hTR (k + 1) (by omega)
      rw [← nI_pred k]
      refine sp_callsOn hC.1.1 hl hTR (a := k + 1) (by omega) hd (by omega) (fun S hS8 hch => ⟨vp_in_nI (by omega) (by decide), ?_⟩)
      rintro _ rfl _ rfl
      refine h _ s hJ' ⟨b + 1, by omega, by rw [us_s, ua_n (by decide), e2, nI_1], fun j hj => ?_⟩ (fun q q1 q2 => by rw [us_n q2, ua_n q1])
      rw [us_n (by decide), ua_s, nI_clamp (by omega)]
      by_cases e : j = b
      · subst e
        rw [pk_us]
        cases n with
        | zero => exact absurd hd.1 (by omega)
        | succ n =>
          obtain ⟨y, hy, hwg⟩ := CH_WG hTR n (k + 1) (by omega) hch
          rw [Nat.add_sub_cancel, g1] at hy
          cases hy
          exact ⟨S, n, x, hS8, rfl, hwg, g2⟩
      · rw [pk_un e]
        exact hS j (by omega)
  · intro c
    have hib := nle3 (y := i) (b := b) (by omega) (by omega) c
    obtain ⟨S, n, x, s1, s2, s3, s4⟩ := hS i hib
    refine ⟨vp_in_nI (by omega) (by decide), ?_⟩
    rw [nI_clamp (by omega), s2, nI_and, nI_z (by have := Nat.and_le_left (n := S) (m := o); omega)]
    refine ⟨fun e => ?_, fun _ => ?_⟩
    · have hx := WG_in hCL (fun c _ hc => and_dis e c hc) n x s3
      have := h sM sJ hJ hW (fun _ _ _ => rfl)
      rw [bad x hx s4] at this
      exact this
    · rintro _ rfl
      rw [nI_1]
      refine hR _ ⟨i + 1, by omega, rfl⟩ ?_
      rw [nI_clamp (by omega), nI_clamp (by omega)]; omega
theorem sp_leastSet (hO : OKb B) (hB : CB sB B) (hf : (BF B 0).2 = false) (hJ : JC sJ) (h3 : sM 3 0 = -1 ∨ ∃ S, LSt B S ∧ sM 3 0 = nI S) {K : Int32 → (St × St) → Prop} (h : ∀ S sM' sJ', LSt B S → sM' 3 0 = nI S → JC sJ' → (∀ q, q ≠ 1 → q ≠ 2 → q ≠ 3 → sM' q = sM q) → K (nI S) (sM', sJ')) : wp_X4_leastSet sM sJ sB K := by
  unfold wp_X4_leastSet
  have hN := hO.1
  obtain ⟨hp, hp0⟩ := p256 hN
  rcases h3 with e3 | ⟨S, hS, e3⟩
  · rw [e3]
    refine ⟨fun _ => ?_, fun z => absurd (by decide) z⟩
    rintro _ rfl
    rw [hB.1, shl1 hN]
    rintro _ rfl
    refine lp_ind (fun q => ∃ n sM' sJ', n ≤ bN B ∧ q = (nI n, sM', sJ') ∧ JC sJ' ∧ BWS B sM' ∧ (∀ q, q ≠ 1 → q ≠ 2 → sM' q = sM q) ∧ ∀ S, S < 2 ^ bN B → GD B S = true → n ≤ pcn S) (fun q => bN B - q.1.toNatClampNeg) ?_ _ ⟨0, _, sJ, by omega, rfl, hJ, ⟨0, by omega, by rw [us_s]; rfl, fun i hi => absurd hi (by omega)⟩, fun q q1 q2 => us_n q2, fun S _ _ => Nat.zero_le _⟩
    rintro _ R ⟨n, sM1, sJ1, hn, rfl, a1, a2, a3, a4⟩ hR
    unfold F_X4_leastSet_26
    dsimp only
    rw [hB.1]
    constructor
    · intro c
      have := le3 (y := n) (b := bN B) (by omega) (by omega) c
      have : n = bN B := by omega
      subst this
      rintro _ rfl
      rw [us_s, nI_sub1 hp0]
      refine h (2 ^ bN B - 1) _ sJ1 ⟨by omega, GD_full hO, fun S' h1 h2 => ?_⟩ (by rw [us_s]) a1 (fun q q1 q2 q3 => by rw [us_n q3]; exact a3 q q1 q2)
      have := pcn_full _ (by omega) S' h1 (a4 S' h1 h2)
      subst this
      exact Or.inr ⟨rfl, Nat.le_refl _⟩
    · intro c
      have hnN := nle3 (y := n) (b := bN B) (by omega) (by omega) c
      refine lp_ind (fun q => ∃ o sM' sJ', o ≤ 2 ^ bN B ∧ q = (nI o, sM', sJ') ∧ JC sJ' ∧ BWS B sM' ∧ (∀ q, q ≠ 1 → q ≠ 2 → sM' q = sM q) ∧ ∀ S, S < o → pcn S = n → GD B S = false) (fun q => 256 - q.1.toNatClampNeg) ?_ _ ⟨0, sM1, sJ1, by omega, rfl, a1, a2, a3, fun S hS => absurd hS (by omega)⟩
      rintro _ R2 ⟨o, sM2, sJ2, ho, rfl, b1, b2, b3, b4⟩ hR2
      unfold F_X4_leastSet_37
      dsimp only
      constructor
      · intro c2
        have := le3 (y := o) (b := 2 ^ bN B) (by omega) (by omega) c2
        rintro _ rfl
        rw [nI_1]
        refine hR _ ⟨n + 1, sM2, sJ2, by omega, rfl, b1, b2, b3, fun S h1 h2 => ?_⟩ ?_
        · have q1 := a4 S h1 h2
          by_cases e : pcn S = n
          · have := b4 S (by omega) e
            rw [h2] at this; cases this
          · omega
        · dsimp only; rw [nI_clamp (by omega), nI_clamp (by omega)]; omega
      · intro c2
        have hoN := nle3 (y := o) (b := 2 ^ bN B) (by omega) (by omega) c2
        have hpo := pcn_le o
        refine sp_bitCount (by omega) ?_
        rw [nI_eq (by omega) (by omega)]
        refine ⟨fun c3 => ?_, fun c3 => ?_⟩
        · refine sp_mends hO hB hf b1 b2 (by omega) (fun sM3 sJ3 d1 d2 d3 => ?_)
          have f3 : ∀ q, q ≠ 1 → q ≠ 2 → sM3 q = sM q := fun q q1 q2 => (d3 q q1 q2).trans (b3 q q1 q2)
          rw [bi_0]
          refine ⟨fun c4 => ?_, fun c4 => ?_⟩
          · rintro _ rfl
            rw [nI_1]
            refine hR2 _ ⟨o + 1, sM3, sJ3, by omega, rfl, d1, d2, f3, fun S hS hp => ?_⟩ ?_
            · by_cases e : S = o
              · subst e; exact c4
              · exact b4 S (by omega) hp
            · dsimp only; rw [nI_clamp (by omega), nI_clamp (by omega)]; omega
          · rintro _ rfl
            rw [us_s]
            refine h o _ sJ3 ⟨hoN, bt_of c4, fun S' h1 h2 => ?_⟩ (by rw [us_s]) d1 (fun q q1 q2 q3 => by rw [us_n q3]; exact f3 q q1 q2)
            have q1 := a4 S' h1 h2
            by_cases e : pcn S' = n
            · rcases Nat.lt_or_ge S' o with z | z
              · have := b4 S' z e
                rw [h2] at this; cases this
              · omega
            · omega
        · rintro _ rfl
          rw [nI_1]
          refine hR2 _ ⟨o + 1, sM2, sJ2, by omega, rfl, b1, b2, b3, fun S hS hp => ?_⟩ ?_
          · by_cases e : S = o
            · subst e; exact absurd hp c3
            · exact b4 S (by omega) hp
          · dsimp only; rw [nI_clamp (by omega), nI_clamp (by omega)]; omega
  · rw [e3]
    have h256 := hS.1
    refine ⟨fun z => absurd z (nI_pos (by omega)), fun _ => h S sM sJ hS e3 hJ (fun _ _ _ _ => rfl)⟩
end MEND
