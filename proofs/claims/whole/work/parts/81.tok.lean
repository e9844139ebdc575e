/-! ===== tokens: the class ===== -/
def WAc (tx : Nat → Nat) (st e : Nat) : Prop := e = st + 3 ∧ tx st = 97 ∧ tx (st + 1) = 99 ∧ tx (st + 2) = 116
def WCa (tx : Nat → Nat) (st e : Nat) : Prop := e = st + 4 ∧ tx st = 99 ∧ tx (st + 1) = 97 ∧ tx (st + 2) = 108 ∧ tx (st + 3) = 108
def lt' (c : Nat) : Prop := 97 ≤ c ∧ c ≤ 122
def fg' (c : Nat) : Prop := 48 ≤ c ∧ c ≤ 57
/-- what a token is -/
def TKc (n : Nat) (tx : Nat → Nat) (k v st bh : Nat) : Prop :=
  (st = n ∧ k = 1 ∧ bh = n) ∨ (st < n ∧ st < bh ∧
    ((k = 4 ∧ v < 4 ∧ tx st = 65 + v ∧ bh = st + 1) ∨ (k = 6 ∧ tx st = 62 ∧ bh = st + 1) ∨ (k = 7 ∧ tx st = 61 ∧ bh = st + 1) ∨ (k = 8 ∧ tx st = 59 ∧ bh = st + 1) ∨
     (k = 5 ∧ v < 10 ∧ tx st = 48 + v ∧ bh = st + 1 ∧ (bh < n → ¬ fg' (tx bh))) ∨
     (lt' (tx st) ∧ (∀ j, st < j → j < bh → lt' (tx j)) ∧ (bh < n → ¬ lt' (tx bh)) ∧ ((k = 2 ∧ WAc tx st bh) ∨ (k = 3 ∧ WCa tx st bh) ∨ (k = 0 ∧ ¬ WAc tx st bh ∧ ¬ WCa tx st bh))) ∨
     (k = 0 ∧ fg' (tx st) ∧ st + 1 < n ∧ fg' (tx (st + 1))) ∨
     (k = 0 ∧ ¬ lt' (tx st) ∧ ¬ fg' (tx st) ∧ ¬ (65 ≤ tx st ∧ tx st ≤ 68) ∧ tx st ≠ 62 ∧ tx st ≠ 61 ∧ tx st ≠ 59)))
/-- the token behind p -/
def TK (n : Nat) (tx : Nat → Nat) (p k v st bh : Nat) : Prop := p ≤ st ∧ st ≤ bh ∧ bh ≤ n ∧ (∀ j, p ≤ j → j < st → tx j = 32) ∧ (st < n → tx st ≠ 32) ∧ TKc n tx k v st bh
/-- the text in the class -/
def CTx (s : St) (n : Nat) (tx : Nat → Nat) : Prop := n ≤ 300 ∧ s 1 0 = nI n ∧ ∀ j, j < n → tx j < 256 ∧ s 0 j = nI (tx j)
theorem CTx.fr {s s' : St} {n : Nat} {tx : Nat → Nat} (h : CTx s n tx) (e0 : s' 0 = s 0) (e1 : s' 1 = s 1) : CTx s' n tx := by unfold CTx at *; rw [e0, e1]; exact h
section TOKC
variable {s : St} {n : Nat} {tx : Nat → Nat}
theorem sp_isLetter (hc : CTx s n tx) {j : Nat} (hj : j < n) {K : Int32 → Prop} (h1 : lt' (tx j) → K 1) (h0 : ¬ lt' (tx j) → K 0) : wp_X7_isLetter s (nI j) K := by
  unfold wp_X7_isLetter
  obtain ⟨h300, -, hb⟩ := hc
  obtain ⟨b1, b2⟩ := hb j hj
  have iv : vp_in (nI j) 300 := vp_in_nI (by omega) (by decide)
  rw [nI_clamp (by omega), b2, show (97 : Int32) = nI 97 from rfl, show (122 : Int32) = nI 122 from rfl, nI_ltI (by omega) (by decide), nI_ltI (by decide) (by omega)]
  exact ⟨iv, fun c => h0 (fun z => by have := z.1; omega), fun c => ⟨iv, fun c2 => h0 (fun z => by have := z.2; omega), fun c2 => h1 ⟨by omega, by omega⟩⟩⟩
theorem sp_isFigure (hc : CTx s n tx) {j : Nat} (hj : j < n) {K : Int32 → Prop} (h1 : fg' (tx j) → K 1) (h0 : ¬ fg' (tx j) → K 0) : wp_X7_isFigure s (nI j) K := by
  unfold wp_X7_isFigure
  obtain ⟨h300, -, hb⟩ := hc
  obtain ⟨b1, b2⟩ := hb j hj
  have iv : vp_in (nI j) 300 := vp_in_nI (by omega) (by decide)
  rw [nI_clamp (by omega), b2, show (48 : Int32) = nI 48 from rfl, show (57 : Int32) = nI 57 from rfl, nI_ltI (by omega) (by decide), nI_ltI (by decide) (by omega)]
  exact ⟨iv, fun c => h0 (fun z => by have := z.1; omega), fun c => ⟨iv, fun c2 => h0 (fun z => by have := z.2; omega), fun c2 => h1 ⟨by omega, by omega⟩⟩⟩
theorem sp_isWordC (hc : CTx s n tx) {st e w l : Nat} {ch : Nat → Nat} (h2 : s 2 0 = nI st) (h5 : s 5 0 = nI e) (hse : st < e) (hen : e ≤ n) (hl : SLENn w = l) (hl4 : l ≤ 4) (hch : ∀ j, j < l → SCH w j = nI (ch j) ∧ ch j < 256) {K : Int32 → Prop} (h1 : e = st + l → (∀ j, j < l → tx (st + j) = ch j) → K 1) (h0 : ¬ (e = st + l ∧ ∀ j, j < l → tx (st + j) = ch j) → K 0) : wp_X7_isWord s w K := by
  unfold wp_X7_isWord
  obtain ⟨h300, -, hb⟩ := hc
  have hsl : SLEN w = nI l := by unfold SLEN; rw [hl]; rfl
  rw [h2, h5, pk_sub (by omega), hsl, nI_eq (by omega) (by omega)]
  refine ⟨fun c => ?_, fun c => h0 (fun z => by omega)⟩
  refine lp_ind (fun q => ∃ j, j ≤ l ∧ q = nI j ∧ ∀ i, i < j → tx (st + i) = ch i) (fun q => l - q.toNatClampNeg) ?_ _ ⟨0, by omega, rfl, fun i hi => absurd hi (by omega)⟩
  rintro _ R ⟨j, hj, rfl, hi⟩ hR
  unfold F_X7_isWord_20
  rw [hsl, h2, nI_add, nI_leI (by omega) (by omega)]
  refine ⟨fun c2 => h1 (by omega) (fun i hi2 => hi i (by omega)), fun c2 => ?_⟩
  obtain ⟨b1, b2⟩ := hb (st + j) (by omega)
  obtain ⟨g1, g2⟩ := hch j (by omega)
  rw [nI_clamp (n := st + j) (by omega), nI_clamp (n := j) (by omega), b2, g1, nI_eq (by omega) (by omega), hl]
  refine ⟨vp_in_nI (by omega) (by decide), vp_in_nI (by omega) (by omega), fun c3 => ?_, fun c3 => h0 (fun z => c3 (z.2 j (by omega)))⟩
  rintro _ rfl
  rw [nI_1]
  refine hR _ ⟨j + 1, by omega, rfl, fun i hi2 => ?_⟩ ?_
  · by_cases z : i = j
    · subst z; exact c3
    · exact hi i (by omega)
  · rw [nI_clamp (by omega), nI_clamp (by omega)]; omega
theorem chA : ∀ j, j < 3 → SCH 0 j = nI (([97, 99, 116] : List Nat).getD j 0) ∧ ([97, 99, 116] : List Nat).getD j 0 < 256 := by decide
theorem chC : ∀ j, j < 4 → SCH 1 j = nI (([99, 97, 108, 108] : List Nat).getD j 0) ∧ ([99, 97, 108, 108] : List Nat).getD j 0 < 256 := by decide
theorem WA_iff {st e : Nat} : (e = st + 3 ∧ ∀ j, j < 3 → tx (st + j) = ([97, 99, 116] : List Nat).getD j 0) ↔ WAc tx st e := by
  constructor
  · rintro ⟨h1, h2⟩
    exact ⟨h1, h2 0 (by decide), h2 1 (by decide), h2 2 (by decide)⟩
  · rintro ⟨h1, h2, h3, h4⟩
    exact ⟨h1, all3 h2 h3 h4⟩
theorem WC_iff {st e : Nat} : (e = st + 4 ∧ ∀ j, j < 4 → tx (st + j) = ([99, 97, 108, 108] : List Nat).getD j 0) ↔ WCa tx st e := by
  constructor
  · rintro ⟨h1, h2⟩
    exact ⟨h1, h2 0 (by decide), h2 1 (by decide), h2 2 (by decide), h2 3 (by decide)⟩
  · rintro ⟨h1, h2, h3, h4, h5⟩
    refine ⟨h1, fun j hj => ?_⟩
    match j, hj with
    | 0, _ => exact h2
    | 1, _ => exact h3
    | 2, _ => exact h4
    | 3, _ => exact h5
    | j + 4, h => exact absurd h (by omega)
/-- what stays while a token is looked for -/
def F25 (s s' : St) : Prop := ∀ q, q ≠ 2 → q ≠ 3 → q ≠ 4 → q ≠ 5 → s' q = s q
theorem sp_scanWord (hc : CTx s n tx) {st : Nat} (h2 : s 2 0 = nI st) (h5 : s 5 0 = nI (st + 1)) (h4 : s 4 0 = nI 0) (hst : st < n) (hl : lt' (tx st)) {K : St → Prop} (h : ∀ s' k bh, bh ≤ n → TKc n tx k 0 st bh → s' 2 0 = nI st → s' 3 0 = nI k → s' 4 0 = nI 0 → s' 5 0 = nI bh → F25 s s' → K s') : wp_X7_scanWord s K := by
  unfold wp_X7_scanWord
  have h300 := hc.1
  refine lp_ind (fun q => ∃ e, st < e ∧ e ≤ n ∧ q 5 0 = nI e ∧ (∀ j, st < j → j < e → lt' (tx j)) ∧ ∀ z, z ≠ 5 → q z = s z) (fun q => n - (q 5 0).toNatClampNeg) ?_ _ ⟨st + 1, by omega, by omega, h5, fun j h1 h2 => by omega, fun _ _ => rfl⟩
  rintro q R ⟨e, he, hen, q5, hle, hF⟩ hR
  have hc' : CTx q n tx := hc.fr (hF 0 (by decide)) (hF 1 (by decide))
  have q2 : q 2 0 = nI st := by rw [hF 2 (by decide)]; exact h2
  have q4 : q 4 0 = nI 0 := by rw [hF 4 (by decide)]; exact h4
  have fin : (e < n → ¬ lt' (tx e)) → J_X7_scanWord_35 q K := by
    intro hend
    unfold J_X7_scanWord_35
    have done : ∀ (k : Nat) (v : Int32), v = nI k → ((k = 2 ∧ WAc tx st e) ∨ (k = 3 ∧ WCa tx st e) ∨ (k = 0 ∧ ¬ WAc tx st e ∧ ¬ WCa tx st e)) → K (us q 3 v) := by
      intro k v hv hk
      refine h _ k e hen (Or.inr ⟨hst, he, Or.inr (Or.inr (Or.inr (Or.inr (Or.inr (Or.inl ⟨hl, hle, hend, hk⟩)))))⟩) (by rw [us_n (by decide)]; exact q2) (by rw [us_s]; exact hv) (by rw [us_n (by decide)]; exact q4) (by rw [us_n (by decide)]; exact q5) (fun z z2 z3 z4 z5 => by rw [us_n z3]; exact hF z z5)
    refine sp_isWordC hc' (l := 3) q2 q5 he hen rfl (by decide) chA (fun a1 a2 => ⟨fun z => absurd z (by decide), fun _ => ?_⟩) (fun a1 => ⟨fun _ => ?_, fun z => absurd rfl z⟩)
    · rintro _ rfl
      exact done 2 _ rfl (Or.inl ⟨rfl, WA_iff.mp ⟨a1, a2⟩⟩)
    · have na : ¬ WAc tx st e := fun z => a1 (WA_iff.mpr z)
      refine sp_isWordC hc' (l := 4) q2 q5 he hen rfl (by decide) chC (fun b1 b2 => ⟨fun z => absurd z (by decide), fun _ => ?_⟩) (fun b1 => ⟨fun _ => ?_, fun z => absurd rfl z⟩)
      · rintro _ rfl
        exact done 3 _ rfl (Or.inr (Or.inl ⟨rfl, WC_iff.mp ⟨b1, b2⟩⟩))
      · rintro _ rfl
        exact done 0 _ rfl (Or.inr (Or.inr ⟨rfl, na, fun z => b1 (WC_iff.mpr z)⟩))
  unfold F_X7_scanWord_0
  rw [hc'.2.1, q5, nI_leI (by omega) (by omega)]
  refine ⟨fun c => fin (fun z => by omega), fun c => ?_⟩
  refine sp_isLetter hc' (by omega) (fun c2 => ⟨fun z => absurd z (by decide), fun _ => ?_⟩) (fun c2 => ⟨fun _ => fin (fun _ => c2), fun z => absurd rfl z⟩)
  rintro _ rfl
  rw [nI_1]
  refine hR _ ⟨e + 1, by omega, by omega, by rw [us_s], fun j h1 h2 => ?_, fun z hz => by rw [us_n hz]; exact hF z hz⟩ ?_
  · by_cases z : j = e
    · subst z; exact c2
    · exact hle j h1 (by omega)
  · rw [us_s, q5, nI_clamp (by omega), nI_clamp (by omega)]; omega
theorem sp_scanNumber (hc : CTx s n tx) {st : Nat} (h2 : s 2 0 = nI st) (h5 : s 5 0 = nI (st + 1)) (hst : st < n) (hl : fg' (tx st)) {K : St → Prop} (h : ∀ s' k v bh, bh ≤ n → TKc n tx k v st bh → s' 2 0 = nI st → s' 3 0 = nI k → s' 4 0 = nI v → s' 5 0 = nI bh → F25 s s' → K s') : wp_X7_scanNumber s K := by
  unfold wp_X7_scanNumber
  have h300 := hc.1
  refine lp_ind (fun q => ∃ e, st < e ∧ e ≤ n ∧ q 5 0 = nI e ∧ (∀ j, st < j → j < e → fg' (tx j)) ∧ ∀ z, z ≠ 5 → q z = s z) (fun q => n - (q 5 0).toNatClampNeg) ?_ _ ⟨st + 1, by omega, by omega, h5, fun j h1 h2 => by omega, fun _ _ => rfl⟩
  rintro q R ⟨e, he, hen, q5, hle, hF⟩ hR
  have hc' : CTx q n tx := hc.fr (hF 0 (by decide)) (hF 1 (by decide))
  have q2 : q 2 0 = nI st := by rw [hF 2 (by decide)]; exact h2
  obtain ⟨b1, b2⟩ := hc'.2.2 st hst
  have hl' : 48 ≤ tx st ∧ tx st ≤ 57 := hl
  have fin : (e < n → ¬ fg' (tx e)) → J_X7_scanNumber_35 q K := by
    intro hend
    unfold J_X7_scanNumber_35
    have done : ∀ (k : Nat) (v : Int32), v = nI k → TKc n tx k (tx st - 48) st e → J_X7_scanNumber_54 q v K := by
      intro k v hv hk
      unfold J_X7_scanNumber_54
      rintro _ rfl
      rw [us_n (j := 2) (by decide), us_n (j := 0) (by decide), q2, nI_clamp (by omega), b2]
      refine ⟨vp_in_nI (by omega) (by decide), ?_⟩
      rintro _ rfl
      refine h _ k (tx st - 48) e hen hk (by rw [us_n (by decide), us_n (by decide)]; exact q2) (by rw [us_n (by decide), us_s]; exact hv) (by rw [us_s]; exact pk_sub (b := 48) (by omega)) (by rw [us_n (by decide), us_n (by decide)]; exact q5) (fun z z2 z3 z4 z5 => by rw [us_n z4, us_n z3]; exact hF z z5)
    rw [q5, q2, nI_1, nI_eq (by omega) (by omega)]
    refine ⟨fun c => done 5 _ rfl (Or.inr ⟨hst, he, Or.inr (Or.inr (Or.inr (Or.inr (Or.inl ⟨rfl, by omega, by omega, c, hend⟩))))⟩), fun c => done 0 _ rfl (Or.inr ⟨hst, he, Or.inr (Or.inr (Or.inr (Or.inr (Or.inr (Or.inr (Or.inl ⟨rfl, hl, by omega, hle (st + 1) (by omega) (by omega)⟩))))))⟩)⟩
  unfold F_X7_scanNumber_0
  rw [hc'.2.1, q5, nI_leI (by omega) (by omega)]
  refine ⟨fun c => fin (fun z => by omega), fun c => ?_⟩
  refine sp_isFigure hc' (by omega) (fun c2 => ⟨fun z => absurd z (by decide), fun _ => ?_⟩) (fun c2 => ⟨fun _ => fin (fun _ => c2), fun z => absurd rfl z⟩)
  rintro _ rfl
  rw [nI_1]
  refine hR _ ⟨e + 1, by omega, by omega, by rw [us_s], fun j h1 h2 => ?_, fun z hz => by rw [us_n hz]; exact hF z hz⟩ ?_
  · by_cases z : j = e
    · subst z; exact c2
    · exact hle j h1 (by omega)
  · rw [us_s, q5, nI_clamp (by omega), nI_clamp (by omega)]; omega
theorem sp_scanSign (hc : CTx s n tx) {st : Nat} (h2 : s 2 0 = nI st) (h5 : s 5 0 = nI (st + 1)) (h4 : s 4 0 = nI 0) (hst : st < n) (nl : ¬ lt' (tx st)) (nf : ¬ fg' (tx st)) {K : St → Prop} (h : ∀ s' k v bh, bh ≤ n → TKc n tx k v st bh → s' 2 0 = nI st → s' 3 0 = nI k → s' 4 0 = nI v → s' 5 0 = nI bh → F25 s s' → K s') : wp_X7_scanSign s (nI (tx st)) K := by
  unfold wp_X7_scanSign
  obtain ⟨b1, -⟩ := hc.2.2 st hst
  rintro _ rfl
  rw [show (65 : Int32) = nI 65 from rfl, show (69 : Int32) = nI 69 from rfl, nI_ltI (by omega) (by decide), nI_leI (by decide) (by omega)]
  have jj : ¬ (65 ≤ tx st ∧ tx st ≤ 68) → J_X7_scanSign_33 (us s 3 0) (nI (tx st)) K := by
    intro ha
    unfold J_X7_scanSign_33
    have done : ∀ (k : Nat) (v : Int32), v = nI k → TKc n tx k 0 st (st + 1) → K (us (us s 3 0) 3 v) := by
      intro k v hv hk
      exact h _ k 0 (st + 1) (by omega) hk (by rw [us_n (by decide), us_n (by decide)]; exact h2) (by rw [us_s]; exact hv) (by rw [us_n (by decide), us_n (by decide)]; exact h4) (by rw [us_n (by decide), us_n (by decide)]; exact h5) (fun z z2 z3 z4 z5 => by rw [us_n z3, us_n z3])
    rw [show (62 : Int32) = nI 62 from rfl, show (61 : Int32) = nI 61 from rfl, show (59 : Int32) = nI 59 from rfl, nI_eq (by omega) (by decide), nI_eq (by omega) (by decide), nI_eq (by omega) (by decide)]
    refine ⟨fun c => ?_, fun c => ⟨fun c2 => ?_, fun c2 => ⟨fun c3 => ?_, fun c3 => ?_⟩⟩⟩
    · rintro _ rfl
      exact done 6 _ rfl (Or.inr ⟨hst, by omega, Or.inr (Or.inl ⟨rfl, c, rfl⟩)⟩)
    · rintro _ rfl
      exact done 7 _ rfl (Or.inr ⟨hst, by omega, Or.inr (Or.inr (Or.inl ⟨rfl, c2, rfl⟩))⟩)
    · rintro _ rfl
      exact done 8 _ rfl (Or.inr ⟨hst, by omega, Or.inr (Or.inr (Or.inr (Or.inl ⟨rfl, c3, rfl⟩)))⟩)
    · exact h _ 0 0 (st + 1) (by omega) (Or.inr ⟨hst, by omega, Or.inr (Or.inr (Or.inr (Or.inr (Or.inr (Or.inr (Or.inr ⟨rfl, nl, nf, ha, c, c2, c3⟩))))))⟩) (by rw [us_n (by decide)]; exact h2) (by rw [us_s]; rfl) (by rw [us_n (by decide)]; exact h4) (by rw [us_n (by decide)]; exact h5) (fun z z2 z3 z4 z5 => us_n z3)
  refine ⟨fun c => jj (by omega), fun c => ⟨fun c2 => jj (by omega), fun c2 => ?_⟩⟩
  rintro _ rfl _ rfl
  refine h _ 4 (tx st - 65) (st + 1) (by omega) (Or.inr ⟨hst, by omega, Or.inl ⟨rfl, by omega, by omega, rfl⟩⟩) (by rw [us_n (by decide), us_n (by decide), us_n (by decide)]; exact h2) (by rw [us_n (by decide), us_s]; rfl) (by rw [us_s]; exact pk_sub (b := 65) (by omega)) (by rw [us_n (by decide), us_n (by decide), us_n (by decide)]; exact h5) (fun z z2 z3 z4 z5 => by rw [us_n z4, us_n z3, us_n z3])
theorem sp_advance (hc : CTx s n tx) {p : Nat} (hp : p ≤ n) (h5 : s 5 0 = nI p) {K : St → Prop} (h : ∀ s' k v st bh, TK n tx p k v st bh → s' 2 0 = nI st → s' 3 0 = nI k → s' 4 0 = nI v → s' 5 0 = nI bh → F25 s s' → K s') : wp_X7_advance s K := by
  unfold wp_X7_advance
  have h300 := hc.1
  rintro _ rfl
  refine lp_ind (fun q => ∃ j, p ≤ j ∧ j ≤ n ∧ q 2 0 = nI j ∧ (∀ i, p ≤ i → i < j → tx i = 32) ∧ ∀ z, z ≠ 2 → q z = s z) (fun q => n - (q 2 0).toNatClampNeg) ?_ _ ⟨p, by omega, hp, by rw [us_s]; exact h5, fun i h1 h2 => by omega, fun z hz => us_n hz⟩
  rintro q R ⟨st, hps, hsn, q2, hsp, hF⟩ hR
  have hc' : CTx q n tx := hc.fr (hF 0 (by decide)) (hF 1 (by decide))
  have fin : (st < n → tx st ≠ 32) → J_X7_advance_46 q K := by
    intro hend
    unfold J_X7_advance_46
    rintro _ rfl _ rfl
    have z2 : (us (us q 5 (q 2 0 + 1)) 4 0) 2 0 = nI st := by rw [us_n (by decide), us_n (by decide)]; exact q2
    have z5 : (us (us q 5 (q 2 0 + 1)) 4 0) 5 0 = nI (st + 1) := by rw [us_n (by decide), us_s, q2, nI_1]
    have z4 : (us (us q 5 (q 2 0 + 1)) 4 0) 4 0 = nI 0 := by rw [us_s]; rfl
    have zc : CTx (us (us q 5 (q 2 0 + 1)) 4 0) n tx := hc'.fr (by rw [us_n (by decide), us_n (by decide)]) (by rw [us_n (by decide), us_n (by decide)])
    have zF : F25 s (us (us q 5 (q 2 0 + 1)) 4 0) := fun z a2 a3 a4 a5 => by rw [us_n a4, us_n a5]; exact hF z a2
    have fin2 : ∀ s' k v bh, bh ≤ n → TKc n tx k v st bh → s' 2 0 = nI st → s' 3 0 = nI k → s' 4 0 = nI v → s' 5 0 = nI bh → F25 (us (us q 5 (q 2 0 + 1)) 4 0) s' → K s' := by
      intro s' k v bh b1 b2 b3 b4 b5 b6 b7
      have hsb : st ≤ bh := by
        rcases b2 with ⟨e1, e2, e3⟩ | ⟨e1, e2, -⟩
        · omega
        · omega
      exact h s' k v st bh ⟨hps, hsb, b1, hsp, hend, b2⟩ b3 b4 b5 b6 (fun z a2 a3 a4 a5 => (b7 z a2 a3 a4 a5).trans (zF z a2 a3 a4 a5))
    rw [z2, zc.2.1, nI_ltI (by omega) (by omega)]
    refine ⟨fun c => ?_, fun c => ?_⟩
    · refine sp_isLetter zc c (fun c2 => ⟨fun z => absurd z (by decide), fun _ => ?_⟩) (fun c2 => ⟨fun _ => ?_, fun z => absurd rfl z⟩)
      · exact sp_scanWord zc z2 z5 z4 c c2 (fun s' k bh b1 b2 b3 b4 b5 b6 b7 => fin2 s' k 0 bh b1 b2 b3 b4 b5 b6 b7)
      · refine sp_isFigure zc c (fun c3 => ⟨fun z => absurd z (by decide), fun _ => ?_⟩) (fun c3 => ⟨fun _ => ?_, fun z => absurd rfl z⟩)
        · exact sp_scanNumber zc z2 z5 c c3 fin2
        · obtain ⟨b1, b2⟩ := zc.2.2 st c
          refine ⟨vp_in_nI (by omega) (by decide), ?_⟩
          rw [nI_clamp (by omega), b2]
          exact sp_scanSign zc z2 z5 z4 c c2 c3 fin2
    · rintro _ rfl _ rfl
      have e : st = n := by omega
      subst e
      refine fin2 _ 1 0 st (by omega) (Or.inl ⟨rfl, rfl, rfl⟩) (by rw [us_n (by decide), us_n (by decide)]; exact z2) (by rw [us_s]; rfl) (by rw [us_n (by decide), us_n (by decide)]; exact z4) (by rw [us_n (by decide), us_s]) (fun z a2 a3 a4 a5 => by rw [us_n a3, us_n a5])
  unfold F_X7_advance_8
  rw [hc'.2.1, q2, nI_leI (by omega) (by omega)]
  refine ⟨fun c => fin (fun z => by omega), fun c => ?_⟩
  obtain ⟨b1, b2⟩ := hc'.2.2 st (by omega)
  rw [nI_clamp (n := st) (by omega), b2, show (32 : Int32) = nI 32 from rfl, nI_eq (by omega) (by decide)]
  refine ⟨vp_in_nI (by omega) (by decide), fun c2 => ?_, fun c2 => fin (fun _ => c2)⟩
  rintro _ rfl
  rw [nI_1]
  refine hR _ ⟨st + 1, by omega, by omega, by rw [us_s], fun i h1 h2 => ?_, fun z hz => by rw [us_n hz]; exact hF z hz⟩ ?_
  · by_cases z : i = st
    · subst z; exact c2
    · exact hsp i h1 (by omega)
  · rw [us_s, q2, nI_clamp (by omega), nI_clamp (by omega)]; omega
end TOKC
