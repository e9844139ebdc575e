/-- a call's graph, and a way's graph gone on by a call -/
def bs (B : BK) (c : Nat) : Nd := (bf B c, bt B c, ba B c)
def st1 (B : BK) (y : Nd) (c : Nat) : Nd := (y.1, bt B c, jw y.2.2 (ba B c))
def inn (B : BK) (out c : Nat) : Prop := c < bN B ∧ ¬ out / 2 ^ c % 2 = 1
/-- what the q-th step of the search finds -/
def TG (B : BK) (out : Nat) (L : List Nd) (q : Nat) (x : Nd) : Prop := inn B out (q % 8) ∧ ((q / 8 = 0 ∧ x = bs B (q % 8)) ∨ ∃ p y, q / 8 = p + 1 ∧ L[p]? = some y ∧ bf B (q % 8) = y.2.1 ∧ x = st1 B y (q % 8))
theorem TG.uni {B : BK} {out q : Nat} {L : List Nd} {x y : Nd} (h1 : TG B out L q x) (h2 : TG B out L q y) : x = y := by
  rcases h1.2 with ⟨a1, a2⟩ | ⟨p, z, a1, a2, a3, a4⟩
  · rcases h2.2 with ⟨b1, b2⟩ | ⟨p', z', b1, b2, b3, b4⟩
    · rw [a2, b2]
    · omega
  · rcases h2.2 with ⟨b1, b2⟩ | ⟨p', z', b1, b2, b3, b4⟩
    · omega
    · have : p = p' := by omega
      subst this
      rw [a2] at b2
      cases b2
      rw [a4, b4]
theorem TG.mono {B : BK} {out q : Nat} {L : List Nd} {x : Nd} (h : TG B out L q x) (l : List Nd) : TG B out (L ++ l) q x := by
  refine ⟨h.1, ?_⟩
  rcases h.2 with a | ⟨p, z, a1, a2, a3, a4⟩
  · exact Or.inl a
  · refine Or.inr ⟨p, z, a1, ?_, a3, a4⟩
    rw [List.getElem?_append_left (List.getElem?_eq_some_iff.mp a2).1]
    exact a2
theorem TG.back {B : BK} {out q : Nat} {L l : List Nd} {x : Nd} (hq : q / 8 ≤ L.length) (h : TG B out (L ++ l) q x) : TG B out L q x := by
  refine ⟨h.1, ?_⟩
  rcases h.2 with a | ⟨p, z, a1, a2, a3, a4⟩
  · exact Or.inl a
  · refine Or.inr ⟨p, z, a1, ?_, a3, a4⟩
    rw [List.getElem?_append_left (by omega)] at a2
    exact a2
/-- how the graphs were found -/
def TREE (B : BK) (out : Nat) (S : SG) (f1 f2 : Nat → Int32) (m : Nat) : Prop := ∃ PC : Nat → Nat, (∀ i x, S.1[i]? = some x → PC i < m ∧ PC i / 8 ≤ i ∧ f1 i = nI (PC i / 8) - 1 ∧ f2 i = nI (PC i % 8) ∧ TG B out S.1 (PC i) x) ∧ (∀ i j, i < j → j < S.1.length → PC i < PC j) ∧ (S.2 = false → ∀ q x, q < m → TG B out S.1 q x → ∃ i, S.1[i]? = some x ∧ PC i ≤ q)
theorem TREE.nil {B : BK} {out : Nat} {f1 f2 : Nat → Int32} : TREE B out ([], false) f1 f2 0 := ⟨fun _ => 0, fun i x h => by simp at h, fun i j _ h => by simp at h, fun _ q x h => by omega⟩
theorem TREE.skip {B : BK} {out m m' : Nat} {S : SG} {f1 f2 : Nat → Int32} (h : TREE B out S f1 f2 m) (hm : m ≤ m') (hn : ∀ q x, m ≤ q → q < m' → ¬ TG B out S.1 q x) : TREE B out S f1 f2 m' := by
  obtain ⟨PC, h1, h2, h3⟩ := h
  refine ⟨PC, fun i x hi => ?_, h2, fun e q x hq hT => ?_⟩
  · obtain ⟨a, b⟩ := h1 i x hi; exact ⟨by omega, b⟩
  · rcases Nat.lt_or_ge q m with z | z
    · exact h3 e q x z hT
    · exact absurd hT (hn q x z hq)
theorem TREE.add {B : BK} {out m : Nat} {S : SG} {sK s' : St} (h : TREE B out S (sK 1) (sK 2) m) (hS : SI S) (hB : BG S) (hm : m / 8 ≤ S.1.length) {x : Nd} (hT : TG B out S.1 m x) (hg : GRW sK s' S x (nI (m / 8) - 1) (nI (m % 8))) : TREE B out (addN S x) (s' 1) (s' 2) (m + 1) := by
  obtain ⟨L, big⟩ := S
  obtain ⟨PC, h1, h2, h3⟩ := h
  have hl : L.length ≤ 1000 := hS.1
  by_cases hm2 : x ∈ L ∨ L.length = 1000
  · obtain ⟨e1, e2⟩ := hg.1 hm2
    rw [e1, e2]
    have eL : (addN (L, big) x).1 = L := by
      cases big
      · by_cases q : x ∈ L
        · simp [addN, q]
        · have : L.length = 1000 := by rcases hm2 with z | z; exact absurd z q; exact z
          simp [addN, q, this]
      · simp [addN]
    refine ⟨PC, fun i y hi => ?_, fun i j hij hj => ?_, fun e q y hq hTy => ?_⟩
    · rw [eL] at hi ⊢
      obtain ⟨a, b⟩ := h1 i y hi
      exact ⟨by omega, b⟩
    · rw [eL] at hj; exact h2 i j hij hj
    · have hb : big = false ∧ x ∈ L := by
        cases big
        · refine ⟨rfl, ?_⟩
          by_cases z : x ∈ L
          · exact z
          · have : L.length = 1000 := by rcases hm2 with w | w; exact absurd w z; exact w
            simp [addN, z, this] at e
        · simp [addN] at e
      rw [eL] at hTy ⊢
      by_cases z : q = m
      · subst z
        have := hT.uni hTy
        subst this
        obtain ⟨i, hi⟩ := List.getElem?_of_mem hb.2
        have := (h1 i x hi).1
        exact ⟨i, hi, by omega⟩
      · exact h3 hb.1 q y (by omega) hTy
  · have nm : x ∉ L := fun z => hm2 (Or.inl z)
    have nl : ¬ L.length = 1000 := fun z => hm2 (Or.inr z)
    obtain ⟨e1, e2⟩ := hg.2 nm nl
    have hbf : big = false := by
      cases hb : big
      · rfl
      · exact absurd (hB hb) nl
    subst hbf
    have ea : addN (L, false) x = (L ++ [x], false) := by simp [addN, nm, nl]
    rw [ea, e1, e2]
    have old : ∀ i y, i < L.length → (L ++ [x])[i]? = some y → L[i]? = some y := fun i y hi h => by rwa [List.getElem?_append_left hi] at h
    have hm' : m / 8 ≤ L.length := hm
    refine ⟨up PC L.length m, fun i y hi => ?_, fun i j hij hj => ?_, fun _ q y hq hTy => ?_⟩
    · have hil := (List.getElem?_eq_some_iff.mp hi).1
      simp at hil
      by_cases z : i = L.length
      · subst z
        simp at hi
        subst hi
        rw [up_s, pk_us, pk_us]
        exact ⟨by omega, hm', rfl, rfl, hT.mono _⟩
      · obtain ⟨a, b, c, d, e⟩ := h1 i y (old i y (by omega) hi)
        rw [up_n z, pk_un z, pk_un z]
        exact ⟨by omega, b, c, d, e.mono _⟩
    · simp at hj
      have zi : i ≠ L.length := by omega
      rw [up_n zi]
      by_cases z : j = L.length
      · subst z
        rw [up_s]
        exact (h1 i _ (List.getElem?_eq_getElem (by omega))).1
      · rw [up_n z]; exact h2 i j hij (by simp only; omega)
    · have hTy' : TG B out L q y := hTy.back (by have : q / 8 ≤ m / 8 := Nat.div_le_div_right (by omega); omega)
      by_cases z : q = m
      · subst z
        have := hT.uni hTy'
        subst this
        exact ⟨L.length, by simp, by rw [up_s]; omega⟩
      · obtain ⟨i, hi, hle⟩ := h3 rfl q y (by omega) hTy'
        have hil := (List.getElem?_eq_some_iff.mp hi).1
        exact ⟨i, by simp only; rw [List.getElem?_append_left hil]; exact hi, by rw [up_n (Nat.ne_of_lt hil)]; exact hle⟩
