/-- which of the first k are BAD, as the class notes it -/
def BD (sK : St) (L : List Nd) (k : Nat) : Prop := ((sK 10 0 = -1 ∧ ∀ i x, i < k → L[i]? = some x → badb x = false) ∨ ∃ j y, j < k ∧ L[j]? = some y ∧ badb y = true ∧ sK 10 0 = nI j ∧ ∀ i x, i < j → L[i]? = some x → badb x = false) ∧ ∃ b, b < 16 ∧ sK 11 0 = nI b ∧ ∀ a, a < 4 → (b / 2 ^ a % 2 = 1 ↔ ∃ i x, i < k ∧ L[i]? = some x ∧ badb x = true ∧ x.1 = a)
theorem BD.frame {sK s' : St} {L : List Nd} {k : Nat} (h : BD sK L k) (e1 : s' 10 = sK 10) (e2 : s' 11 = sK 11) : BD s' L k := by unfold BD at *; rw [e1, e2]; exact h
theorem BD.zero {sK : St} {L : List Nd} (e1 : sK 10 0 = -1) (e2 : sK 11 0 = 0) : BD sK L 0 := ⟨Or.inl ⟨e1, fun i x h => absurd h (by omega)⟩, 0, by decide, e2, fun a _ => ⟨fun h => by simp at h, fun ⟨i, _, h, _⟩ => absurd h (by omega)⟩⟩
theorem BD.next {sK : St} {L : List Nd} {k : Nat} {x : Nd} (h : BD sK L k) (hk : L[k]? = some x) (hx : badb x = false) : BD sK L (k + 1) := by
  obtain ⟨h1, b, b1, b2, b3⟩ := h
  refine ⟨?_, b, b1, b2, fun a ha => (b3 a ha).trans ⟨fun ⟨i, y, q1, q2⟩ => ⟨i, y, by omega, q2⟩, fun ⟨i, y, q1, q2, q3, q4⟩ => ?_⟩⟩
  · rcases h1 with ⟨a1, a2⟩ | ⟨j, y, a1, a2⟩
    · refine Or.inl ⟨a1, fun i y hi hy => ?_⟩
      by_cases z : i = k
      · subst z; rw [hk] at hy; cases hy; exact hx
      · exact a2 i y (by omega) hy
    · exact Or.inr ⟨j, y, by omega, a2⟩
  · by_cases z : i = k
    · subst z; rw [hk] at q2; cases q2; rw [hx] at q3; cases q3
    · exact ⟨i, y, by omega, q2, q3, q4⟩
theorem BD.ext {sK : St} {L : List Nd} {k : Nat} (h : BD sK L k) (hk : k ≤ L.length) (l : List Nd) : BD sK (L ++ l) k := by
  have ee : ∀ i, i < k → (L ++ l)[i]? = L[i]? := fun i hi => List.getElem?_append_left (by omega)
  obtain ⟨h1, b, b1, b2, b3⟩ := h
  refine ⟨?_, b, b1, b2, fun a ha => (b3 a ha).trans ⟨fun ⟨i, y, q1, q2, q3⟩ => ⟨i, y, q1, by rw [ee i q1]; exact q2, q3⟩, fun ⟨i, y, q1, q2, q3⟩ => ⟨i, y, q1, by rw [← ee i q1]; exact q2, q3⟩⟩⟩
  rcases h1 with ⟨a1, a2⟩ | ⟨j, y, a1, a2, a3, a4, a5⟩
  · exact Or.inl ⟨a1, fun i y hi hy => a2 i y hi (by rw [← ee i hi]; exact hy)⟩
  · exact Or.inr ⟨j, y, a1, by rw [ee j a1]; exact a2, a3, a4, fun i z hi hz => a5 i z hi (by rw [← ee i (by omega)]; exact hz)⟩
theorem orb_ok : ∀ b, b < 16 → ∀ a, a < 4 → nI b ||| ((1 : Int32) <<< (nI a &&& 31)) = nI (b ||| 2 ^ a) ∧ b ||| 2 ^ a < 16 ∧ ∀ c, c < 4 → ((b ||| 2 ^ a) / 2 ^ c % 2 = 1 ↔ b / 2 ^ c % 2 = 1 ∨ a = c) := by decide +kernel
theorem sp_noteBad {sK : St} {L : List Nd} {k : Nat} {x : Nd} (h : BD sK L k) (hk : L[k]? = some x) (hl : L.length ≤ 1000) (hNV : NV x) (h0 : sK 0 k = nI (key x)) (hx : badb x = true) {K : St → Prop} (hK : ∀ s', BD s' L (k + 1) → (∀ q, q ≠ 10 → q ≠ 11 → s' q = sK q) → K s') : wp_X2_noteBad sK (nI k) K := by
  unfold wp_X2_noteBad
  have hkl := (List.getElem?_eq_some_iff.mp hk).1
  obtain ⟨h1, b, b1, b2, b3⟩ := h
  rw [nI_clamp (n := k) (by omega), h0, b2]
  refine ⟨vp_in_nI (by omega) (by decide), sp_kfrom hNV ?_⟩
  rintro _ rfl
  obtain ⟨o1, o2, o3⟩ := orb_ok b b1 x.1 hNV.1
  rw [o1, us_n (j := 10) (by decide)]
  have bits : ∀ a, a < 4 → ((b ||| 2 ^ x.1) / 2 ^ a % 2 = 1 ↔ ∃ i y, i < k + 1 ∧ L[i]? = some y ∧ badb y = true ∧ y.1 = a) := by
    intro a ha
    rw [o3 a ha, b3 a ha]
    constructor
    · rintro (⟨i, y, q1, q2⟩ | e)
      · exact ⟨i, y, by omega, q2⟩
      · exact ⟨k, x, by omega, hk, hx, e⟩
    · rintro ⟨i, y, q1, q2, q3, q4⟩
      by_cases z : i = k
      · subst z; rw [hk] at q2; cases q2; exact Or.inr q4
      · exact Or.inl ⟨i, y, by omega, q2, q3, q4⟩
  rcases h1 with ⟨a1, a2⟩ | ⟨j, y, a1, a2, a3, a4, a5⟩
  · rw [a1]
    refine ⟨fun c => absurd c (by decide), fun _ => ?_⟩
    rintro _ rfl
    refine hK _ ⟨Or.inr ⟨k, x, by omega, hk, hx, by rw [us_s], fun i y hi hy => a2 i y hi hy⟩, b ||| 2 ^ x.1, o2, by rw [us_n (by decide), us_s], bits⟩ (fun q q1 q2 => by rw [us_n q1, us_n q2])
  · rw [a4]
    refine ⟨fun _ => hK _ ⟨Or.inr ⟨j, y, by omega, a2, a3, by rw [us_n (by decide)]; exact a4, a5⟩, b ||| 2 ^ x.1, o2, by rw [us_s], bits⟩ (fun q q1 q2 => us_n q2), fun c => absurd (nI_pos' (by omega)) c⟩
/-- the class's search stands after k graphs were gone on from -/
def CS (B : BK) (out : Nat) (s : St) (S : SG) (m : Nat) : Prop := CG s S ∧ TREE B out S (s 1) (s 2) m ∧ JC s ∧ (∀ d, d < bN B → ¬ out / 2 ^ d % 2 = 1 → s 6 d = nI (ba B d)) ∧ s 9 0 = 0
section GROW
variable {B : BK} {sB : St} {out : Nat}
theorem bit0 {c : Nat} (ho : out < 256) (hc : c < 8) : (nI out >>> (nI c &&& 31)) &&& (1 : Int32) = 0 ↔ ¬ out / 2 ^ c % 2 = 1 := by
  rw [bit_nI (by omega) (by omega), nI_z (by omega)]; omega
theorem sp_grow36 (hO : OKb B) (hB : CB sB B) (ho : out < 256) {sK : St} (h0 : CG sK ([], false)) (hJ : JC sK) (h9 : sK 9 0 = 0) (h10 : sK 10 0 = -1) (h11 : sK 11 0 = 0) {E : St → Prop} (h : ∀ s, CS B out s (iN B out (bN B)) 8 → s 10 0 = -1 → s 11 0 = 0 → E s) : Lp (F_X2_grow_36 sB (nI out) E) ((0 : Int32), sK) := by
  have hN := hO.1
  refine lp_ind (fun q => ∃ c s, c ≤ bN B ∧ q = (nI c, s) ∧ CG s (iN B out c) ∧ TREE B out (iN B out c) (s 1) (s 2) c ∧ JC s ∧ (∀ d, d < c → ¬ out / 2 ^ d % 2 = 1 → s 6 d = nI (ba B d)) ∧ s 9 0 = 0 ∧ s 10 0 = -1 ∧ s 11 0 = 0) (fun q => bN B - q.1.toNatClampNeg) ?_ _ ⟨0, sK, by omega, rfl, h0, TREE.nil, hJ, fun d hd => absurd hd (by omega), h9, h10, h11⟩
  rintro _ R ⟨c, s, hc, rfl, g1, g2, g3, g4, g5, g6, g7⟩ hR
  unfold F_X2_grow_36
  dsimp only
  rw [hB.1]
  constructor
  · intro c1
    have := le3 (y := c) (b := bN B) (by omega) (by omega) c1
    have : c = bN B := by omega
    subst this
    refine h s ⟨g1, g2.skip (by omega) (fun q x q1 q2 hT => ?_), g3, g4, g5⟩ g6 g7
    have := hT.1.1
    rw [Nat.mod_eq_of_lt q2] at this
    omega
  · intro c1
    have hcN := nle3 (y := c) (b := bN B) (by omega) (by omega) c1
    obtain ⟨f4, t4, gw, -⟩ := hO.2.2 c hcN
    obtain ⟨mf, mt, ma⟩ := hB.2.2 c hcN
    have i8 : vp_in (nI c) 8 := vp_in_nI (by omega) (by decide)
    rw [bit0 ho (by omega), nI_clamp (n := c) (by omega), mf, mt, ma]
    refine ⟨fun c2 => ⟨i8, sp_prepare g3 (by omega) gw (fun s1 j1 j2 j3 j4 => ⟨i8, i8, i8, sp_of f4 t4 gw.1 ?_⟩)⟩, fun c2 => ?_⟩
    · have hS := iN_SI hO out c hc
      have hBG := iN_BG B out c
      have k1 : CG s1 (iN B out c) := ⟨by rw [j4 7 (by decide) (by decide)]; exact g1.1, by rw [j4 8 (by decide) (by decide)]; exact g1.2.1, by rw [j4 0 (by decide) (by decide)]; exact g1.2.2.1, by rw [j4 3 (by decide) (by decide)]; exact g1.2.2.2⟩
      have k2 : TREE B out (iN B out c) (s1 1) (s1 2) c := by rw [j4 1 (by decide) (by decide), j4 2 (by decide) (by decide)]; exact g2
      have hT : TG B out (iN B out c).1 c (bf B c, bt B c, ba B c) := by
        have : c % 8 = c := Nat.mod_eq_of_lt (by omega)
        refine ⟨by rw [this]; exact ⟨hcN, c2⟩, Or.inl ⟨by omega, by rw [this]; rfl⟩⟩
      refine sp_add k1 hS hBG (x := (bf B c, bt B c, ba B c)) ⟨f4, t4, gw⟩ (fun s2 m1 m2 m3 => ?_)
      have e9 : iN B out (c + 1) = addN (iN B out c) (bf B c, bt B c, ba B c) := by
        simp only [iN]; rw [if_neg c2]
      rintro _ rfl
      rw [nI_1]
      have hg : GRW s1 s2 (iN B out c) (bf B c, bt B c, ba B c) (nI (c / 8) - 1) (nI (c % 8)) := by
        rw [show c / 8 = 0 by omega, show c % 8 = c by omega]; exact m3
      refine hR _ ⟨c + 1, s2, by omega, rfl, by rw [e9]; exact m1, by rw [e9]; exact k2.add hS hBG (by omega) hT hg, ?_, fun d hd hd2 => ?_, ?_, ?_, ?_⟩ ?_
      · intro d hd
        rw [m2 5 (by decide) (by decide) (by decide) (by decide) (by decide) (by decide), m2 6 (by decide) (by decide) (by decide) (by decide) (by decide) (by decide)]
        exact j1 d hd
      · rw [m2 6 (by decide) (by decide) (by decide) (by decide) (by decide) (by decide)]
        by_cases z : d = c
        · subst z; exact j2
        · rw [j3 d (by omega) z]; exact g4 d (by omega) hd2
      · rw [m2 9 (by decide) (by decide) (by decide) (by decide) (by decide) (by decide), j4 9 (by decide) (by decide)]; exact g5
      · rw [m2 10 (by decide) (by decide) (by decide) (by decide) (by decide) (by decide), j4 10 (by decide) (by decide)]; exact g6
      · rw [m2 11 (by decide) (by decide) (by decide) (by decide) (by decide) (by decide), j4 11 (by decide) (by decide)]; exact g7
      · dsimp only; rw [nI_clamp (by omega), nI_clamp (by omega)]; omega
    · rintro _ rfl
      have c3 : out / 2 ^ c % 2 = 1 := Classical.byContradiction c2
      have e9 : iN B out (c + 1) = iN B out c := by
        simp only [iN]; rw [if_pos c3]
      rw [nI_1]
      refine hR _ ⟨c + 1, s, by omega, rfl, by rw [e9]; exact g1, ?_, g3, fun d hd hd2 => ?_, g5, g6, g7⟩ ?_
      · rw [e9]
        refine g2.skip (by omega) (fun q x q1 q2 hT => ?_)
        have : q = c := by omega
        subst this
        have := hT.1.2
        rw [show q % 8 = q by omega] at this
        exact this c3
      · by_cases z : d = c
        · subst z; exact absurd c3 hd2
        · exact g4 d (by omega) hd2
      · dsimp only; rw [nI_clamp (by omega), nI_clamp (by omega)]; omega
theorem eN_pre {S : SG} {x : Nd} : ∀ c, ∃ l, (eN B out S x c).1 = S.1 ++ l := by
  intro c
  induction c with
  | zero => exact ⟨[], by simp [eN]⟩
  | succ c ih =>
    obtain ⟨l, el⟩ := ih
    simp only [eN]
    split
    · exact ⟨l, el⟩
    · obtain ⟨l', el'⟩ := addN_pre (S := eN B out S x c) (x := (x.1, bt B c, jw x.2.2 (ba B c)))
      exact ⟨l ++ l', by rw [el', el, List.append_assoc]⟩
set_option maxHeartbeats 1000000 in
theorem sp_goOn (hO : OKb B) (hB : CB sB B) (ho : out < 256) {sK : St} {S : SG} (hS : SI S) (hBG : BG S) {k : Nat} {x : Nd} (hx : S.1[k]? = some x) (h0 : CS B out sK S (8 * (k + 1))) {K : St → Prop} (h : ∀ s, CS B out s (eN B out S x (bN B)) (8 * (k + 1 + 1)) → s 10 = sK 10 → s 11 = sK 11 → K s) : wp_X2_goOnFrom sK sB (nI k) (nI out) K := by
  unfold wp_X2_goOnFrom
  have hN := hO.1
  have hl : S.1.length ≤ 1000 := hS.1
  have hkl := (List.getElem?_eq_some_iff.mp hx).1
  have hNV : NV x := hS.2.2 x (List.mem_of_getElem? hx)
  rw [nI_clamp (n := k) (by omega), h0.1.2.2.1 k x hx]
  refine ⟨vp_in_nI (by omega) (by decide), ?_⟩
  rintro _ rfl
  refine sp_kfrom hNV (sp_kto hNV ?_)
  refine lp_ind (fun q => ∃ c s, c ≤ bN B ∧ q = (nI c, s) ∧ CS B out s (eN B out S x c) (8 * (k + 1) + c) ∧ s 10 = sK 10 ∧ s 11 = sK 11) (fun q => bN B - q.1.toNatClampNeg) ?_ _ ⟨0, sK, by omega, rfl, h0, rfl, rfl⟩
  rintro _ R ⟨c, s, hc, rfl, hC, e10, e11⟩ hR
  obtain ⟨g1, g2, g3, g4, g5⟩ := id hC
  unfold F_X2_goOnFrom_25
  dsimp only
  rw [hB.1]
  have hpre : (eN B out S x c).1[k]? = some x := by
    obtain ⟨l, el⟩ := eN_pre (B := B) (out := out) (S := S) (x := x) c
    rw [el, List.getElem?_append_left hkl]; exact hx
  have hkl2 := (List.getElem?_eq_some_iff.mp hpre).1
  constructor
  · intro c1
    have := le3 (y := c) (b := bN B) (by omega) (by omega) c1
    have : c = bN B := by omega
    subst this
    refine h s ⟨g1, g2.skip (by omega) (fun q y q1 q2 hT => ?_), g3, g4, g5⟩ e10 e11
    have := hT.1.1
    omega
  · intro c1
    have hcN := nle3 (y := c) (b := bN B) (by omega) (by omega) c1
    obtain ⟨f4, t4, gw, -⟩ := hO.2.2 c hcN
    obtain ⟨mf, mt, ma⟩ := hB.2.2 c hcN
    have i8 : vp_in (nI c) 8 := vp_in_nI (by omega) (by decide)
    have hx4 := hNV.2.1
    have em : (8 * (k + 1) + c) % 8 = c := by omega
    have ed : (8 * (k + 1) + c) / 8 = k + 1 := by omega
    rw [bit0 ho (by omega), nI_clamp (n := c) (by omega), mf, mt, nI_eq (by omega) (by omega)]
    have same : (out / 2 ^ c % 2 = 1 ∨ bf B c ≠ x.2.1) → R (nI c + 1, s) := by
      intro hsk
      have e12 : eN B out S x (c + 1) = eN B out S x c := by simp only [eN]; rw [if_pos hsk]
      rw [nI_1]
      refine hR _ ⟨c + 1, s, by omega, rfl, ⟨by rw [e12]; exact g1, ?_, g3, g4, g5⟩, e10, e11⟩ ?_
      · rw [e12]
        refine g2.skip (by omega) (fun q y q1 q2 hT => ?_)
        have : q = 8 * (k + 1) + c := by omega
        subst this
        obtain ⟨⟨t1, t2⟩, t3⟩ := hT
        rw [em, ed] at t3
        rw [em] at t2
        rcases t3 with ⟨z, -⟩ | ⟨p, z, z1, z2, z3, -⟩
        · omega
        · have : p = k := by omega
          subst this
          rw [hpre] at z2
          cases z2
          rcases hsk with w | w
          · exact t2 w
          · exact w z3
      · dsimp only; rw [nI_clamp (by omega), nI_clamp (by omega)]; omega
    refine ⟨i8, fun c2 => ⟨fun c3 => ⟨i8, sp_joined g3 (by omega) gw (g4 c hcN c3) hNV (sp_of hNV.1 t4 (jw_GW _ _).1 ?_)⟩, fun c3 => ?_⟩, fun c2 => ?_⟩
    · have hS2 := eN_SI hO (out := out) hS hNV c hc
      have hBG2 := eN_BG (B := B) (out := out) (x := x) hBG c
      have hT : TG B out (eN B out S x c).1 (8 * (k + 1) + c) (x.1, bt B c, jw x.2.2 (ba B c)) := by
        refine ⟨by rw [em]; exact ⟨hcN, c3⟩, Or.inr ⟨k, x, ed, hpre, by rw [em]; exact c2, by rw [em]; rfl⟩⟩
      refine sp_add g1 hS2 hBG2 (x := (x.1, bt B c, jw x.2.2 (ba B c))) ⟨hNV.1, t4, jw_GW _ _⟩ (fun s2 m1 m2 m3 => ?_)
      have e12 : eN B out S x (c + 1) = addN (eN B out S x c) (x.1, bt B c, jw x.2.2 (ba B c)) := by
        simp only [eN]
        rw [if_neg (fun z => by rcases z with z | z; exact c3 z; exact z c2)]
      have hg : GRW s s2 (eN B out S x c) (x.1, bt B c, jw x.2.2 (ba B c)) (nI ((8 * (k + 1) + c) / 8) - 1) (nI ((8 * (k + 1) + c) % 8)) := by
        rw [em, ed, nI_sub1 (by omega)]; exact m3
      rintro _ rfl
      rw [nI_1]
      have f5 := m2 5 (by decide) (by decide) (by decide) (by decide) (by decide) (by decide)
      have f6 := m2 6 (by decide) (by decide) (by decide) (by decide) (by decide) (by decide)
      have f9 := m2 9 (by decide) (by decide) (by decide) (by decide) (by decide) (by decide)
      have f10 := m2 10 (by decide) (by decide) (by decide) (by decide) (by decide) (by decide)
      have f11 := m2 11 (by decide) (by decide) (by decide) (by decide) (by decide) (by decide)
      refine hR _ ⟨c + 1, s2, by omega, rfl, ⟨by rw [e12]; exact m1, by rw [e12]; exact g2.add hS2 hBG2 (by omega) hT hg, fun d hd => by rw [f5, f6]; exact g3 d hd, fun d hd hd2 => by rw [f6]; exact g4 d hd hd2, by rw [f9]; exact g5⟩, f10.trans e10, f11.trans e11⟩ ?_
      dsimp only; rw [nI_clamp (by omega), nI_clamp (by omega)]; omega
    · rintro _ rfl
      exact same (Or.inl (Classical.byContradiction c3))
    · rintro _ rfl
      exact same (Or.inr c2)
end GROW
