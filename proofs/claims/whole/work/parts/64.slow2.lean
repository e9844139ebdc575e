def ORDL : List (List Nat) := [[], [0], [1], [2], [0, 1], [0, 2], [1, 0], [1, 2], [2, 0], [2, 1], [0, 1, 2], [0, 2, 1], [1, 0, 2], [1, 2, 0], [2, 0, 1], [2, 1, 0]]
def oL (i : Nat) : List Nat := ORDL.getD i []
theorem ord_ok : ∀ i, i < 16 → ORD i = nI (co (oL i)) ∧ (oL i).length ≤ 3 ∧ ∀ x ∈ oL i, x < 3 := by decide +kernel
def okp (p i : Nat) : Bool := (oL i).all (fun x => decide (x < p))
theorem okp_ok : ∀ i, i < 16 → ∀ p, p < 4 → (okp p i = true ↔ ∀ k, k < 3 → ((ORD i >>> (((2 : Int32) * nI k) &&& 31)) &&& (3 : Int32)) ≤ nI p) := by decide +kernel
theorem sp_isOrderOf {i p : Nat} (hi : i < 16) (hp : p < 4) {K : Int32 → Prop} (h : K (bi (okp p i))) : wp_X9_isOrderOf (ORD i) (nI p) K := by
  unfold wp_X9_isOrderOf
  have e := okp_ok i hi p hp
  refine lp_ind (fun q => ∃ k, k ≤ 3 ∧ q = nI k ∧ ∀ k', k' < k → ((ORD i >>> (((2 : Int32) * nI k') &&& 31)) &&& (3 : Int32)) ≤ nI p) (fun q => 3 - q.toNatClampNeg) ?_ _ ⟨0, by omega, rfl, fun k' hk' => absurd hk' (by omega)⟩
  rintro _ R ⟨k, hk, rfl, he⟩ hR
  unfold F_X9_isOrderOf_2
  constructor
  · intro c
    have := le3 (y := k) (b := 3) (by omega) (by omega) c
    have : k = 3 := by omega
    subst this
    rw [e.mpr he] at h; exact h
  · intro c
    have hk3 := nle3 (y := k) (b := 3) (by omega) (by omega) c
    refine ⟨fun c1 => ?_, fun c1 => ?_⟩
    · rintro _ rfl
      rw [nI_1]
      refine hR _ ⟨k + 1, by omega, rfl, fun k' hk' => ?_⟩ ?_
      · by_cases z : k' = k
        · subst z; exact c1
        · exact he k' (by omega)
      · rw [nI_clamp (by omega), nI_clamp (by omega)]; omega
    · have : okp p i = false := by
        cases hq : okp p i
        · rfl
        · exact absurd (e.mp hq k hk3) c1
      rw [this] at h; exact h
def ANS (p : Nat) (f : List Nat → Bool) (A : Int32) : Prop := (∃ j, j < 16 ∧ okp p j = true ∧ f (oL j) = true ∧ (∀ i, i < j → okp p i = true → f (oL i) = false) ∧ A = nI (co (oL j))) ∨ ((∀ i, i < 16 → okp p i = true → f (oL i) = false) ∧ A = -9)
theorem sp_slow21 {B : BK} {sX sB sK : St} {a : Nat} (hO : OKb B) (hB : CB sB B) (ha : a < 4) {S : SG} (hC : CG sK S) (hS : SI S) {K : Int32 → (St × St) → Prop} (h : ∀ A, ANS (bp B a) (fun l => slm S.1 a l S.1.length) A → K A (sX, sK)) : Lp (F_X9_slow_21 sX sB sK (nI a) K) (0 : Int32) := by
  have hp3 := hO.2.1 a ha
  refine lp_ind (fun q => ∃ i, i ≤ 16 ∧ q = nI i ∧ ∀ i', i' < i → okp (bp B a) i' = true → slm S.1 a (oL i') S.1.length = false) (fun q => 16 - q.toNatClampNeg) ?_ _ ⟨0, by omega, rfl, fun k' hk' => absurd hk' (by omega)⟩
  rintro _ R ⟨i, hi, rfl, he⟩ hR
  unfold F_X9_slow_21
  constructor
  · intro c
    have := le3 (y := i) (b := 16) (by omega) (by omega) c
    have : i = 16 := by omega
    subst this
    exact h _ (Or.inr ⟨he, rfl⟩)
  · intro c
    have hi16 := nle3 (y := i) (b := 16) (by omega) (by omega) c
    obtain ⟨o1, o2⟩ := ord_ok i hi16
    have i16 : vp_in (nI i) 16 := vp_in_nI hi16 (by decide)
    have next : (okp (bp B a) i = true → slm S.1 a (oL i) S.1.length = false) → R (nI i + 1) := by
      intro e
      rw [nI_1]
      refine hR _ ⟨i + 1, by omega, rfl, fun k' hk' => ?_⟩ ?_
      · by_cases z : k' = i
        · subst z; exact e
        · exact he k' (by omega)
      · rw [nI_clamp (by omega), nI_clamp (by omega)]; omega
    rw [nI_clamp (n := i) (by omega), nI_clamp (n := a) (by omega), hB.2.1 a ha]
    refine ⟨i16, vp_in_nI ha (by decide), sp_isOrderOf hi16 (by omega) ?_⟩
    rw [bi_0]
    refine ⟨fun c1 => ?_, fun c1 => ⟨i16, ?_⟩⟩
    · rintro _ rfl
      exact next (fun z => by rw [c1] at z; cases z)
    · rw [o1]
      refine sp_fallsByC hC hS ha (l := oL i) o2 ?_
      rw [bi_0]
      refine ⟨fun c2 => ?_, fun c2 => ⟨i16, h _ (Or.inl ⟨i, hi16, bt_of c1, bt_of c2, he, rfl⟩)⟩⟩
      rintro _ rfl
      exact next (fun _ => c2)
def o0 (p n r : Nat) : Nat := if n < 2 then r else if n = 2 then r / p else r / (p * p)
def o1 (p n r : Nat) : Nat := if n = 2 then r % p else if p = 0 then 0 else r / p % p
def o2 (p r : Nat) : Nat := if p = 0 then 0 else r % p
def lst (p n r : Nat) : List Nat := [o0 p n r, o1 p n r, o2 p r].take n
def unl (p n r : Nat) : Bool := (decide (n < 2) || decide (o0 p n r ≠ o1 p n r)) && (decide (n < 3) || (decide (o0 p n r ≠ o2 p r) && decide (o1 p n r ≠ o2 p r)))
def rws (p n : Nat) : Nat := if n = 0 then 1 else if n = 1 then p else if n = 2 then p * p else p * p * p
def inv (p i : Nat) : Nat × Nat := ((oL i).length, (oL i).foldl (fun a x => a * p + x) 0)
def jx (p n r : Nat) : Nat := ORDL.findIdx (fun l => l == lst p n r)
def D1c (p n r i : Nat) : Prop := ((inv p i).1 < n ∨ ((inv p i).1 = n ∧ (inv p i).2 < r)) ∧ (inv p i).2 < rws p (inv p i).1 ∧ unl p (inv p i).1 (inv p i).2 = true ∧ lst p (inv p i).1 (inv p i).2 = oL i
def D1b (p n r i : Nat) : Bool := (decide ((inv p i).1 < n) || (decide ((inv p i).1 = n) && decide ((inv p i).2 < r))) && (decide ((inv p i).2 < rws p (inv p i).1) && (unl p (inv p i).1 (inv p i).2 && decide (lst p (inv p i).1 (inv p i).2 = oL i)))
theorem D1d {p n r i : Nat} (h : D1b p n r i = true) : D1c p n r i := by
  simp only [D1b, Bool.and_eq_true, Bool.or_eq_true, decide_eq_true_eq] at h
  exact h
def D1e (p n r : Nat) : Bool := decide (jx p n r < 16) && (decide (oL (jx p n r) = lst p n r) && (okp p (jx p n r) && (List.range (jx p n r)).all (fun i => !(okp p i) || D1b p n r i)))
theorem D1f : (List.range 4).all (fun p => (List.range 4).all (fun n => (List.range 27).all (fun r => !(decide (n ≤ p) && (decide (r < rws p n) && unl p n r)) || D1e p n r))) = true := by decide +kernel
theorem D1a (p : Nat) (h1 : p < 4) (n : Nat) (h2 : n < 4) (r : Nat) (h3 : r < 27) (h4 : n ≤ p) (h5 : r < rws p n) (h6 : unl p n r = true) : D1e p n r = true := by
  have h := List.all_eq_true.mp (List.all_eq_true.mp (List.all_eq_true.mp D1f p (List.mem_range.mpr h1)) n (List.mem_range.mpr h2)) r (List.mem_range.mpr h3)
  simpa [h4, h5, h6] using h
theorem D1 (p : Nat) (h1 : p < 4) (n : Nat) (h2 : n < 4) (r : Nat) (h3 : r < 27) (h4 : n ≤ p) (h5 : r < rws p n) (h6 : unl p n r = true) : ∃ j, j < 16 ∧ oL j = lst p n r ∧ okp p j = true ∧ ∀ i, i < j → okp p i = true → D1c p n r i := by
  have h := D1a p h1 n h2 r h3 h4 h5 h6
  simp only [D1e, Bool.and_eq_true, decide_eq_true_eq, List.all_eq_true, List.mem_range, Bool.or_eq_true] at h
  obtain ⟨a1, a2, a3, a4⟩ := h
  refine ⟨jx p n r, a1, a2, a3, fun i hi ho => D1d ?_⟩
  rcases a4 i hi with z | z
  · rw [ho] at z; cases z
  · exact z
theorem D2 : ∀ p, p < 4 → ∀ i, i < 16 → okp p i = true → (inv p i).1 ≤ p ∧ (inv p i).2 < rws p (inv p i).1 ∧ unl p (inv p i).1 (inv p i).2 = true ∧ lst p (inv p i).1 (inv p i).2 = oL i := by decide +kernel
theorem D3 : ∀ p, p < 4 → ∀ n, n < 4 → ∀ r, r < 27 → o0 p n r < 27 ∧ o1 p n r < 27 ∧ o2 p r < 27 := by decide +kernel
theorem D4 : ∀ p, p < 4 → ∀ r, r < 27 → nI r / nI p = nI (r / p) ∧ nI r - nI r / nI p * nI p = nI (r % p) ∧ (nI r / nI p) - (nI r / nI p) / nI p * nI p = nI (r / p % p) ∧ nI r / (nI p * nI p) = nI (r / (p * p)) := by decide +kernel
theorem D5 : ∀ p, p < 4 → ∀ n, n < 4 → n ≤ p → rws p n ≤ 27 := by decide
section SLOWM2
variable {u : St} {sL : Int64} {L : List Nd} {t a p n r : Nat}
/-- nothing but the order's row has changed -/
def F32 (u s : St) : Prop := ∀ q, q ≠ 32 → s q = u q
theorem F32.up {u s : St} (h : F32 u s) {i v : Int32} : F32 u (ua s 32 i v) := fun q hq => by rw [ua_n hq]; exact h q hq
theorem F32.MG {u s : St} (h : F32 u s) (hG : MG u L t) : MG s L t := by
  have e2 := h 22 (by decide)
  have e3 := h 23 (by decide)
  have e4 := h 24 (by decide)
  have e5 := h 25 (by decide)
  have e6 := h 26 (by decide)
  have e7 := h 27 (by decide)
  have e8 := h 28 (by decide)
  unfold Jvm.Pilot.CShrinkingCallsLaw_law_r4409_32fac7.MG at *
  rw [e2, e3, e4, e5, e6, e7, e8]
  exact hG
theorem F32.PW {u s : St} (h : F32 u s) (hp : PW u) : PW s := fun k hk => by rw [h 11 (by decide)]; exact hp k hk
theorem sp_slow162 (hp : PW u) (hG : MG u L t) (hS : SI (L, false)) (ha : a < 4) (hp4 : p < 4) (hn : n ≤ p) (hr : r < rws p n) {s : St} (hF : F32 u s) (x0 : s 32 0 = nI (o0 p n r)) (x1 : s 32 1 = nI (o1 p n r)) {E R : Int32 × St → Prop} (hE : ∀ s', F32 u s' → OR s' (lst p n r) → L3 (lst p n r) → unl p n r = true → slm L a (lst p n r) L.length = true → (lst p n r).length = n → E (nI n, s')) (hR : ∀ s', F32 u s' → (unl p n r = true → slm L a (lst p n r) L.length = false) → R (nI r + 1, s')) : J_X10_slow_162 s sL (nI a) (nI n) (nI r) (2 : Int32) (nI (o2 p r)) E R := by
  unfold J_X10_slow_162
  have hr27 : r < 27 := by have := D5 p hp4 n (by omega) hn; omega
  obtain ⟨b0, b1, b2⟩ := D3 p hp4 n (by omega) r hr27
  refine ⟨(vp_in_nI (by decide) (by decide) : vp_in (nI 2) 3), ?_⟩
  rintro _ rfl
  have hF2 : F32 u (ua s 32 (2 : Int32) (nI (o2 p r))) := hF.up
  have y0 : (ua s 32 (2 : Int32) (nI (o2 p r))) 32 0 = nI (o0 p n r) := by rw [ua_s, pk_un (by decide)]; exact x0
  have y1 : (ua s 32 (2 : Int32) (nI (o2 p r))) 32 1 = nI (o1 p n r) := by rw [ua_s, pk_un (by decide)]; exact x1
  have y2 : (ua s 32 (2 : Int32) (nI (o2 p r))) 32 2 = nI (o2 p r) := by rw [ua_s]; exact pk_us
  generalize ua s 32 (2 : Int32) (nI (o2 p r)) = s2 at hF2 y0 y1 y2 ⊢
  have hno : unl p n r = false → J_X10_slow_222 s2 sL (nI a) (nI n) (nI r) E R := by
    intro hu
    unfold J_X10_slow_222 J_X10_slow_223
    refine ⟨fun _ => ?_, fun c => absurd rfl c⟩
    rintro _ rfl
    exact hR s2 hF2 (fun z => by rw [hu] at z; cases z)
  have hyes : unl p n r = true → J_X10_slow_218 s2 sL (nI a) (nI n) (nI r) E R := by
    intro hu
    obtain ⟨j, j1, j2, -⟩ := D1 p hp4 n (by omega) r hr27 hn hr hu
    have hl3 : L3 (lst p n r) := by rw [← j2]; exact (ord_ok j j1).2
    have hlen : (lst p n r).length = n := by unfold lst; rw [List.length_take]; simp; omega
    have ho : OR s2 (lst p n r) := by
      intro k x hk
      have hkn : k < n := by have := (List.getElem?_eq_some_iff.mp hk).1; omega
      unfold lst at hk
      rw [List.getElem?_take_of_lt hkn] at hk
      have h3 : k = 0 ∨ k = 1 ∨ k = 2 := by omega
      rcases h3 with z | z | z <;> subst z <;> simp at hk <;> subst hk
      · exact y0
      · exact y1
      · exact y2
    unfold J_X10_slow_218 J_X10_slow_223
    refine ⟨fun c => absurd c (by decide), fun _ => ?_⟩
    have := sp_isSlow (sL := sL) (hF2.PW hp) (hF2.MG hG) hS ha hl3 ho (K := fun r26 => ((r26 = 0 → (∀ y28 : Int32, y28 = nI r + (1 : Int32) → (R (y28, s2)))) ∧ (¬ r26 = 0 → (E (nI n, s2)))))
    rw [hlen] at this
    refine this ?_
    rw [bi_0]
    refine ⟨fun c => ?_, fun c => hE s2 hF2 ho hl3 hu (bt_of c) hlen⟩
    rintro _ rfl
    exact hR s2 hF2 (fun _ => c)
  have e01 : s2 32 0 = s2 32 1 ↔ o0 p n r = o1 p n r := by rw [y0, y1]; exact nI_eq (by omega) (by omega)
  have e02 : s2 32 0 = s2 32 2 ↔ o0 p n r = o2 p r := by rw [y0, y2]; exact nI_eq (by omega) (by omega)
  have e12 : s2 32 1 = s2 32 2 ↔ o1 p n r = o2 p r := by rw [y1, y2]; exact nI_eq (by omega) (by omega)
  have l2 : nI n < (2 : Int32) ↔ n < 2 := nI_ltI (b := 2) (by omega) (by decide)
  have l3 : nI n < (3 : Int32) ↔ n < 3 := nI_ltI (b := 3) (by omega) (by decide)
  have h183 : (n < 2 ∨ o0 p n r ≠ o1 p n r) → J_X10_slow_183 s2 sL (nI a) (nI n) (nI r) E R := by
    intro hc
    unfold J_X10_slow_183
    rw [l3, e02, e12]
    have hc' : (decide (n < 2) || decide (o0 p n r ≠ o1 p n r)) = true := by
      rcases hc with z | z
      · simp [z]
      · simp [z]
    refine ⟨fun c => hyes ?_, fun c => ⟨fun c2 => hno ?_, fun c2 => ⟨fun c3 => hno ?_, fun c3 => hyes ?_⟩⟩⟩
    · unfold unl; rw [hc']; simp [c]
    · unfold unl; rw [hc']; simp [c, c2]
    · unfold unl; rw [hc']; simp [c, c3]
    · unfold unl; rw [hc']; simp [c2, c3]
  rw [l2, e01]
  refine ⟨fun c => h183 (Or.inl c), fun c => ⟨fun c2 => hno ?_, fun c2 => h183 (Or.inr c2)⟩⟩
  unfold unl
  simp [c, c2]
theorem sp_slow72 (hp : PW u) (hG : MG u L t) (hS : SI (L, false)) (ha : a < 4) (hp4 : p < 4) (hn : n ≤ p) {R29 : Int32 × St → Prop} (hr : r < rws p n) {s : St} (hF : F32 u s) {E R : Int32 × St → Prop} (hE : ∀ s', F32 u s' → OR s' (lst p n r) → L3 (lst p n r) → unl p n r = true → slm L a (lst p n r) L.length = true → (lst p n r).length = n → E (nI n, s')) (hR : ∀ s', F32 u s' → (unl p n r = true → slm L a (lst p n r) L.length = false) → R (nI r + 1, s')) : F_X10_slow_72 sL (nI a) (nI p) (nI n) (nI (rws p n)) E R29 R (nI r, s) := by
  unfold F_X10_slow_72
  have h5 := D5 p hp4 n (by omega) hn
  have hr27 : r < 27 := by omega
  obtain ⟨d1, d2, d3, d4⟩ := D4 p hp4 r hr27
  dsimp only
  refine ⟨fun c => absurd (le3 (y := r) (b := rws p n) (by omega) (by omega) c) (by omega), fun _ => ?_⟩
  have l2 : (2 : Int32) ≤ nI n ↔ 2 ≤ n := nI_leI (a := 2) (by decide) (by omega)
  have l2e : nI n = (2 : Int32) ↔ n = 2 := nI_eq (b := 2) (by omega) (by decide)
  have pz : nI p = 0 ↔ p = 0 := nI_z (by omega)
  have h112 : J_X10_slow_112 s sL (nI a) (nI p) (nI n) (nI r) (0 : Int32) (nI (o0 p n r)) E R := by
    unfold J_X10_slow_112
    refine ⟨(vp_in_nI (by decide) (by decide) : vp_in (nI 0) 3), ?_⟩
    rintro _ rfl
    have hF1 : F32 u (ua s 32 (0 : Int32) (nI (o0 p n r))) := hF.up
    have x0 : (ua s 32 (0 : Int32) (nI (o0 p n r))) 32 0 = nI (o0 p n r) := by rw [ua_s]; exact pk_us
    generalize ua s 32 (0 : Int32) (nI (o0 p n r)) = s1 at hF1 x0 ⊢
    have h144 : J_X10_slow_144 s1 sL (nI a) (nI p) (nI n) (nI r) (1 : Int32) (nI (o1 p n r)) E R := by
      unfold J_X10_slow_144
      refine ⟨(vp_in_nI (by decide) (by decide) : vp_in (nI 1) 3), ?_⟩
      rintro _ rfl
      have hF2 : F32 u (ua s1 32 (1 : Int32) (nI (o1 p n r))) := hF1.up
      have y0 : (ua s1 32 (1 : Int32) (nI (o1 p n r))) 32 0 = nI (o0 p n r) := by rw [ua_s, pk_un (by decide)]; exact x0
      have y1 : (ua s1 32 (1 : Int32) (nI (o1 p n r))) 32 1 = nI (o1 p n r) := by rw [ua_s]; exact pk_us
      generalize ua s1 32 (1 : Int32) (nI (o1 p n r)) = s2 at hF2 y0 y1 ⊢
      have fin := sp_slow162 (sL := sL) hp hG hS ha hp4 hn hr hF2 y0 y1 hE hR
      rw [pz, d2]
      refine ⟨fun c => ?_, fun c => ⟨c, ?_⟩⟩
      · have : o2 p r = 0 := by unfold o2; rw [if_pos c]
        rw [this] at fin; exact fin
      · have : o2 p r = r % p := by unfold o2; rw [if_neg c]
        rw [this] at fin; exact fin
    rw [l2e, pz, d2, d3]
    refine ⟨fun c => ⟨by omega, ?_⟩, fun c => ⟨fun c2 => ?_, fun c2 => ⟨c2, c2, ?_⟩⟩⟩
    · have : o1 p n r = r % p := by unfold o1; rw [if_pos c]
      rw [this] at h144; exact h144
    · have : o1 p n r = 0 := by unfold o1; rw [if_neg c, if_pos c2]
      rw [this] at h144; exact h144
    · have : o1 p n r = r / p % p := by unfold o1; rw [if_neg c, if_neg c2]
      rw [this] at h144; exact h144
  rw [l2, l2e, d1, d4]
  refine ⟨fun c => ⟨fun c2 => ⟨by rw [pz]; omega, ?_⟩, fun c2 => ⟨?_, ?_⟩⟩, fun c => ?_⟩
  · have : o0 p n r = r / p := by unfold o0; rw [if_neg (by omega), if_pos c2]
    rw [this] at h112; exact h112
  · have : ∀ p, p < 4 → 2 ≤ p → ¬ nI p * nI p = 0 := by decide
    exact this p hp4 (by omega)
  · have : o0 p n r = r / (p * p) := by unfold o0; rw [if_neg (by omega), if_neg c2]
    rw [this] at h112; exact h112
  · have : o0 p n r = r := by unfold o0; rw [if_pos (by omega)]
    rw [this] at h112; exact h112
theorem D6 : ∀ p, p < 4 → nI p * nI p = nI (p * p) ∧ (nI p * nI p) * nI p = nI (p * p * p) := by decide
theorem sp_slow29 (hp : PW u) (hG : MG u L t) (hS : SI (L, false)) (ha : a < 4) (hp4 : p < 4) {A : Int32} (hA : ANS p (fun l => slm L a l L.length) A) {K : Int32 → St → Prop} (h : ∀ s', F32 u s' → K A s') : Lp (F_X10_slow_29 sL (nI a) (nI p) K (fun q32 => ∀ y33 : Int32, y33 = (q32.1 - (1 : Int32)) → (Lp (F_X10_slow_247 q32.2 K) ((0 : Int32), y33)))) ((0 : Int32), u) := by
  refine lp_ind (fun q => ∃ n s, n ≤ p + 1 ∧ q = (nI n, s) ∧ F32 u s ∧ ∀ n' r', n' < n → r' < rws p n' → unl p n' r' = true → slm L a (lst p n' r') L.length = false) (fun q => 4 - q.1.toNatClampNeg) ?_ _ ⟨0, u, by omega, rfl, fun _ _ => rfl, fun n' r' z => absurd z (by omega)⟩
  rintro _ R ⟨n, s, hn, rfl, hF, he⟩ hR
  unfold F_X10_slow_29
  dsimp only
  rw [nI_ltI (by omega) (by omega)]
  constructor
  · intro c
    rcases hA with ⟨j, j1, j2, j3, -⟩ | ⟨-, e⟩
    · obtain ⟨i1, i2, i3, i4⟩ := D2 p hp4 j j1 j2
      have := he _ _ (by omega) i2 i3
      rw [i4] at this
      simp only at j3
      rw [j3] at this; cases this
    · rw [e] at h; exact h s hF
  · intro c
    have hnp : n ≤ p := by omega
    have h67 : J_X10_slow_67 s sL (nI a) (nI p) (nI n) (nI (rws p n)) (fun q32 => ∀ y33 : Int32, y33 = (q32.1 - (1 : Int32)) → (Lp (F_X10_slow_247 q32.2 K) ((0 : Int32), y33))) R := by
      unfold J_X10_slow_67
      have h5 := D5 p hp4 n (by omega) hnp
      refine lp_ind (fun q => ∃ r s', r ≤ rws p n ∧ q = (nI r, s') ∧ F32 u s' ∧ ∀ r', r' < r → unl p n r' = true → slm L a (lst p n r') L.length = false) (fun q => 27 - q.1.toNatClampNeg) ?_ _ ⟨0, s, by omega, rfl, hF, fun r' z => absurd z (by omega)⟩
      rintro _ R2 ⟨r, s1, hr, rfl, hF1, he1⟩ hR2
      rcases Nat.lt_or_ge r (rws p n) with hlt | hge
      · refine sp_slow72 hp hG hS ha hp4 hnp hlt hF1 (fun s' f1 f2 f3 f4 f5 f6 => ?_) (fun s' f1 f2 => ?_)
        · rintro _ rfl
          dsimp only
          have f7 := sp_slow247 (sS := s') (K := K) f3 f2
          rw [f6] at f7
          refine f7 ?_
          obtain ⟨j, j1, j2, j3, j4⟩ := D1 p hp4 n (by omega) r (by omega) hnp hlt f4
          have hAe : A = nI (co (lst p n r)) := by
            rcases hA with ⟨j', k1, k2, k3, k4, k5⟩ | ⟨k1, -⟩
            · have : j = j' := by
                rcases Nat.lt_trichotomy j j' with z | z | z
                · have := k4 j z j3
                  simp only at this
                  rw [j2, f5] at this; cases this
                · exact z
                · obtain ⟨i1, i2, i3, i4⟩ := j4 j' z k2
                  simp only at k3
                  rcases i1 with w | ⟨w1, w2⟩
                  · have := he _ _ w i2 i3
                    rw [i4, k3] at this; cases this
                  · rw [w1] at i3 i4
                    have := he1 _ w2 i3
                    rw [i4, k3] at this; cases this
              subst this
              rw [k5, j2]
            · have := k1 j j1 j3
              simp only at this
              rw [j2, f5] at this; cases this
          rw [← hAe]
          exact h s' f1
        · rw [nI_1]
          refine hR2 _ ⟨r + 1, s', by omega, rfl, f1, fun r' hr' hu => ?_⟩ ?_
          · by_cases z : r' = r
            · subst z; exact f2 hu
            · exact he1 r' (by omega) hu
          · dsimp only; rw [nI_clamp (by omega), nI_clamp (by omega)]; omega
      · unfold F_X10_slow_72
        dsimp only
        rw [nI_leI (by omega) (by omega)]
        refine ⟨fun _ => ?_, fun c2 => absurd hge c2⟩
        rintro _ rfl
        rw [nI_1]
        refine hR _ ⟨n + 1, s1, by omega, rfl, hF1, fun n' r' z1 z2 z3 => ?_⟩ ?_
        · by_cases z : n' = n
          · subst z; exact he1 r' (by omega) z3
          · exact he n' r' (by omega) z2 z3
        · dsimp only; rw [nI_clamp (by omega), nI_clamp (by omega)]; omega
    obtain ⟨d1, d2⟩ := D6 p hp4
    have e0 : nI n = 0 ↔ n = 0 := nI_z (by omega)
    have e1 : nI n = (1 : Int32) ↔ n = 1 := nI_eq (b := 1) (by omega) (by decide)
    have e2 : nI n = (2 : Int32) ↔ n = 2 := nI_eq (b := 2) (by omega) (by decide)
    rw [e0, e1, e2, d2, d1]
    refine ⟨fun c1 => ?_, fun c1 => ⟨fun c2 => ?_, fun c2 => ⟨fun c3 => ?_, fun c3 => ?_⟩⟩⟩
    · have : rws p n = 1 := by unfold rws; rw [if_pos c1]
      rw [this] at h67; exact h67
    · have : rws p n = p := by unfold rws; rw [if_neg c1, if_pos c2]
      rw [this] at h67; exact h67
    · have : rws p n = p * p := by unfold rws; rw [if_neg c1, if_neg c2, if_pos c3]
      rw [this] at h67; exact h67
    · have : rws p n = p * p * p := by unfold rws; rw [if_neg c1, if_neg c2, if_neg c3]
      rw [this] at h67; exact h67
end SLOWM2
/-- what the model must keep -/
def KP (sS s' : St) : Prop := ∀ q, q < 12 → s' q = sS q
theorem FR.kp {sS s' : St} (h : FR sS s') : KP sS s' := fun q hq => h q (by omega) (by omega) (by omega) (by omega) (by omega) (by omega) (by omega)
theorem KP.tr {a b c : St} (h1 : KP a b) (h2 : KP b c) : KP a c := fun q hq => (h2 q hq).trans (h1 q hq)
theorem F32.kp {sS s' : St} (h : F32 sS s') : KP sS s' := fun q hq => h q (by omega)
theorem F32.st {sS s' : St} {t : Nat} (h : F32 sS s') (hs : STm sS t) : STm s' t := by
  unfold STm at *
  rw [h 26 (by decide), h 27 (by decide)]
  exact hs
theorem op_slow {B : BK} {sX sT sB sD sR sK sM sJ sV : St} {sW : Int64} {sS : St} {sL : Int64} {t : Nat} (hO : OKb B) (hB : CB sB B) (hM : MB sS B) (hp : PW sS) (hst : STm sS t) (ht : t < 2000000000) (hX : CX B sX sK) {p : Int32} {K : Int32 → (St × St) → Int32 → St → Prop} (h0 : ∀ a, K a (sX, sK) a sS) (h : ∀ a sX' sK' sS', CX B sX' sK' → KP sS sS' → STm sS' (t + 1) → K a (sX', sK') a sS') : wp_X9_slow sX sT sB sD sR sK sM sJ sV sW p (fun a u => wp_X10_slow sS sL p (fun a' u' => K a u a' u')) := by
  unfold wp_X9_slow
  have hS := BF_SI hO 0
  refine sp_isActC (fun hx => ⟨fun e => absurd e (by decide), fun _ => ?_⟩) (fun hx => ⟨fun _ => ?_, fun e => absurd rfl e⟩)
  · obtain ⟨a, ha, rfl⟩ := hx
    refine sp_isLarge hO hB hX (fun sX' sK' x1 x2 x3 x4 => ?_)
    rw [bi_0]
    dsimp only
    have hp3 := hO.2.1 a ha
    refine ⟨fun c => sp_slow21 hO hB ha x3.1 hS (fun A hA => ?_), fun c => ?_⟩
    · unfold wp_X10_slow
      refine sp_isActM (fun _ => ⟨fun e => absurd e (by decide), fun _ => ?_⟩) (fun hx => absurd ⟨a, ha, rfl⟩ hx)
      refine sp_layGraphs (out := 0) hO hM hp hst ht (by decide) (fun s' g1 g2 => ⟨fun c2 => ?_, fun c2 => ⟨vp_in_nI ha (by decide), ?_⟩⟩)
      · rw [c] at c2; exact absurd c2 (by decide)
      · rw [nI_clamp (n := a) (by omega), (g2.MB hM).2.1 a ha]
        rintro _ rfl
        exact sp_slow29 (g2.PW hp) g1 hS.fl ha (by omega) hA (fun s2 f2 => h _ _ _ _ x1 (g2.kp.tr f2.kp) (f2.st g1.st))
    · unfold wp_X10_slow
      refine sp_isActM (fun _ => ⟨fun e => absurd e (by decide), fun _ => ?_⟩) (fun hx => absurd ⟨a, ha, rfl⟩ hx)
      refine sp_layGraphs (out := 0) hO hM hp hst ht (by decide) (fun s' g1 g2 => ⟨fun c2 => h _ _ _ _ x1 g2.kp g1.st, fun c2 => ?_⟩)
      rw [bt_of c] at c2; exact absurd rfl c2
  · unfold wp_X10_slow
    refine sp_isActM (fun hy => absurd hy hx) (fun _ => ⟨fun _ => h0 _, fun e => absurd rfl e⟩)
