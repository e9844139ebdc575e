theorem sumc_up {f : Nat → Nat} {s v : Nat} : ∀ n, s < n → sumc (up f s v) n + f s = sumc f n + v := by
  intro n
  induction n with
  | zero => intro h; omega
  | succ n ih =>
    intro hn
    simp only [sumc]
    by_cases e : n = s
    · subst e
      have : ∀ m, m ≤ n → sumc (up f n v) m = sumc f m := by
        intro m
        induction m with
        | zero => intro _; rfl
        | succ m ih2 => intro hm; simp only [sumc]; rw [ih2 (by omega), up_n (by omega)]
      rw [this n (Nat.le_refl _), up_s]; omega
    · have := ih (by omega)
      rw [up_n e]; omega
theorem sumc_le {f : Nat → Nat} {k : Nat} : ∀ n, (∀ i, i < n → f i ≤ k) → sumc f n ≤ k * n := by
  intro n
  induction n with
  | zero => intro _; simp [sumc]
  | succ n ih =>
    intro h
    simp only [sumc]
    have a := ih (fun i hi => h i (by omega))
    have b := h n (by omega)
    rw [Nat.mul_succ]; omega
/-- what the first c calls give -/
def LPt (B : BK) (M s c v : Nat) : Prop := (∀ i g, i < c → EG B M i s g → ∃ w, AA B M w g ∧ w + 1 ≤ v) ∧ (v = 0 ∨ ∃ i g, EG B M i s g ∧ LX B M (v - 1) g)
/-- the search as it stands: depth, marks, row, next calls, longest, steps -/
def LOG (B : BK) (M own d : Nat) (mk st nc lg : Nat → Nat) (n : Nat) : Prop :=
  (∀ j, j < d → st j < 256 ∧ mk (st j) = 1) ∧
  (∀ i j, i < d → j < d → st i = st j → i = j) ∧
  (∀ t, t < 256 → (mk t = 0 ∧ nc t = 0) ∨ (mk t = 1 ∧ nc t ≤ bN B ∧ lg t ≤ n ∧ ∃ j, j < d ∧ st j = t) ∨ (mk t = 2 ∧ nc t ≤ 9 ∧ lg t ≤ n ∧ LX B M (lg t) t)) ∧
  (∀ j, j + 1 = d → LPt B M (st j) (nc (st j)) (lg (st j))) ∧
  (∀ j, j + 1 < d → 1 ≤ nc (st j) ∧ LPt B M (st j) (nc (st j) - 1) (lg (st j)) ∧ EG B M (nc (st j) - 1) (st j) (st (j + 1))) ∧
  (own < 256 ∧ mk own ≠ 0 ∧ (0 < d → st 0 = own)) ∧
  n = sumc nc 256
section LOGS
variable {B : BK} {M own d n : Nat} {mk st nc lg : Nat → Nat}
theorem LPt.skip {s c v : Nat} (h : LPt B M s c v) (hn : ∀ g, ¬ EG B M c s g) : LPt B M s (c + 1) v := by
  refine ⟨fun i g hi hE => ?_, h.2⟩
  by_cases e : i = c
  · subst e; exact absurd hE (hn g)
  · exact h.1 i g (by omega) hE
theorem LPt.len {s c v g w : Nat} (h : LPt B M s c v) (hE : EG B M c s g) (hx : LX B M w g) : LPt B M s (c + 1) (if v < w + 1 then w + 1 else v) := by
  refine ⟨fun i g' hi hE' => ?_, ?_⟩
  · by_cases e : i = c
    · subst e
      have : g' = g := by
        have a := hE'.2.2
        rw [hE.2.2] at a
        exact (Option.some.inj a).symm
      subst this
      exact ⟨w, hx.1, by split <;> omega⟩
    · obtain ⟨w', a, b⟩ := h.1 i g' (by omega) hE'
      exact ⟨w', a, by split <;> omega⟩
  · split
    · exact Or.inr ⟨c, g, hE, by rw [Nat.add_sub_cancel]; exact hx⟩
    · exact h.2
theorem LOG.lt (hN : bN B ≤ 8) (h : LOG B M own d mk st nc lg n) (hd : 0 < d) : n < 2304 := by
  obtain ⟨h1, h2, h3, h4, h5, h6, h7⟩ := h
  obtain ⟨a1, a2⟩ := h1 (d - 1) (by omega)
  have hle : nc (st (d - 1)) ≤ 8 := by
    rcases h3 _ a1 with ⟨e, _⟩ | ⟨_, e, _⟩ | ⟨e, _⟩ <;> omega
  have e1 := sumc_up (f := nc) (s := st (d - 1)) (v := nc (st (d - 1)) + 1) 256 a1
  have e2 := sumc_le (f := up nc (st (d - 1)) (nc (st (d - 1)) + 1)) (k := 9) 256 (fun i hi => by
    by_cases e : i = st (d - 1)
    · subst e; rw [up_s]; omega
    · rw [up_n e]
      rcases h3 i hi with ⟨_, e⟩ | ⟨_, e, _⟩ | ⟨_, e, _⟩ <;> omega)
  omega
/-- the next call of the last one is tried -/
theorem LOG.step (h : LOG B M own d mk st nc lg n) {a : Nat} (hd : 0 < d) (ha : st (d - 1) = a) {v : Nat} (hc : nc a + 1 ≤ bN B) (hv : v ≤ n + 1) (hP : LPt B M a (nc a + 1) v) : LOG B M own d mk st (up nc a (nc a + 1)) (up lg a v) (n + 1) := by
  obtain ⟨h1, h2, h3, h4, h5, h6, h7⟩ := h
  have oth : ∀ j, j < d → j ≠ d - 1 → st j ≠ a := fun j hj hne e => hne (h2 j (d - 1) hj (by omega) (by rw [e, ha]))
  have ha1 := h1 (d - 1) (by omega)
  rw [ha] at ha1
  refine ⟨h1, h2, fun t ht => ?_, fun j hj => ?_, fun j hj => ?_, h6, ?_⟩
  · by_cases e : t = a
    · subst e
      rw [up_s, up_s]
      exact Or.inr (Or.inl ⟨ha1.2, hc, hv, d - 1, by omega, ha⟩)
    · rw [up_n e, up_n e]
      rcases h3 t ht with q | ⟨q1, q2, q3, q4⟩ | ⟨q1, q2, q3, q4⟩
      · exact Or.inl q
      · exact Or.inr (Or.inl ⟨q1, q2, by omega, q4⟩)
      · exact Or.inr (Or.inr ⟨q1, q2, by omega, q4⟩)
  · have : j = d - 1 := by omega
    subst this
    rw [ha, up_s, up_s]
    exact hP
  · have e := oth j (by omega) (by omega)
    rw [up_n e, up_n e]
    exact h5 j hj
  · have := sumc_up (f := nc) (s := a) (v := nc a + 1) 256 ha1.1
    omega
/-- a new state is opened -/
theorem LOG.opn (h : LOG B M own d mk st nc lg n) {a g : Nat} (hd : 0 < d) (ha : st (d - 1) = a) (hc : nc a < bN B) (hE : EG B M (nc a) a g) (hg : g < 256) (hm : mk g = 0) : LOG B M own (d + 1) (up mk g 1) (up st d g) (up nc a (nc a + 1)) (up lg g 0) (n + 1) := by
  obtain ⟨h1, h2, h3, h4, h5, h6, h7⟩ := h
  have oth : ∀ j, j < d → j ≠ d - 1 → st j ≠ a := fun j hj hne e => hne (h2 j (d - 1) hj (by omega) (by rw [e, ha]))
  have ha1 := h1 (d - 1) (by omega)
  rw [ha] at ha1
  have hga : g ≠ a := fun e => by rw [e, ha1.2] at hm; omega
  have hgs : ∀ j, j < d → st j ≠ g := fun j hj e => by have := (h1 j hj).2; rw [e, hm] at this; omega
  refine ⟨fun j hj => ?_, fun i j hi hj e => ?_, fun t ht => ?_, fun j hj => ?_, fun j hj => ?_, ⟨h6.1, ?_, fun _ => ?_⟩, ?_⟩
  · by_cases e : j = d
    · subst e; rw [up_s, up_s]; exact ⟨hg, rfl⟩
    · rw [up_n e, up_n (hgs j (by omega))]; exact h1 j (by omega)
  · by_cases ei : i = d
    · subst ei
      by_cases ej : j = i
      · exact ej.symm
      · rw [up_s, up_n ej] at e
        exact absurd e.symm (hgs j (by omega))
    · by_cases ej : j = d
      · subst ej
        rw [up_s, up_n ei] at e
        exact absurd e (hgs i (by omega))
      · rw [up_n ei, up_n ej] at e
        exact h2 i j (by omega) (by omega) e
  · by_cases e : t = g
    · subst e
      rw [up_s, up_n hga, up_s]
      have : nc t = 0 := by rcases h3 t hg with q | q | q; exact q.2; rw [hm] at q; omega; rw [hm] at q; omega
      exact Or.inr (Or.inl ⟨rfl, by omega, by omega, d, by omega, by rw [up_s]⟩)
    · rw [up_n e, up_n e]
      have old : ∀ j, j < d ∧ st j = t → ∃ j, j < d + 1 ∧ up st d g j = t := fun j hj => ⟨j, by omega, by rw [up_n (by omega)]; exact hj.2⟩
      by_cases ea : t = a
      · subst ea
        rw [up_s]
        rcases h3 t ht with q | ⟨q1, q2, q3, j, q4⟩ | q
        · rw [ha1.2] at q; omega
        · exact Or.inr (Or.inl ⟨q1, by omega, by omega, old j q4⟩)
        · rw [ha1.2] at q; omega
      · rw [up_n ea]
        rcases h3 t ht with q | ⟨q1, q2, q3, j, q4⟩ | ⟨q1, q2, q3, q4⟩
        · exact Or.inl q
        · exact Or.inr (Or.inl ⟨q1, q2, by omega, old j q4⟩)
        · exact Or.inr (Or.inr ⟨q1, q2, by omega, q4⟩)
  · have : j = d := by omega
    subst this
    rw [up_s, up_n hga, up_s]
    have : nc g = 0 := by rcases h3 g hg with q | q | q; exact q.2; rw [hm] at q; omega; rw [hm] at q; omega
    rw [this]
    exact ⟨fun i g' hi => absurd hi (by omega), Or.inl rfl⟩
  · rw [up_n (k := d) (j := j) (by omega)]
    have hjg := hgs j (by omega)
    rw [up_n (k := g) hjg]
    by_cases e : j = d - 1
    · subst e
      rw [ha, up_s, Nat.add_sub_cancel, show d - 1 + 1 = d by omega, up_s]
      refine ⟨by omega, ?_, hE⟩
      have := h4 (d - 1) (by omega)
      rw [ha] at this
      exact this
    · rw [up_n (oth j (by omega) e), up_n (k := d) (j := j + 1) (by omega)]
      exact h5 j (by omega)
  · by_cases e : own = g
    · rw [e, up_s]; omega
    · rw [up_n e]; exact h6.2.1
  · rw [up_n (by omega)]; exact h6.2.2 hd
  · have := sumc_up (f := nc) (s := a) (v := nc a + 1) 256 ha1.1
    omega
/-- the last one is closed -/
theorem LOG.cls (hO : OKb B) (hM3 : M ≤ 3) (h : LOG B M own d mk st nc lg n) {a : Nat} (hd : 0 < d) (ha : st (d - 1) = a) (hc : nc a = bN B) : LX B M (lg a) a ∧ LOG B M own (d - 1) (up mk a 2) st (up nc a (nc a + 1)) (if 1 < d then up lg (st (d - 2)) (if lg (st (d - 2)) < lg a + 1 then lg a + 1 else lg (st (d - 2))) else lg) (n + 1) := by
  obtain ⟨h1, h2, h3, h4, h5, h6, h7⟩ := h
  have hN := hO.1
  have oth : ∀ j, j < d → j ≠ d - 1 → st j ≠ a := fun j hj hne e => hne (h2 j (d - 1) hj (by omega) (by rw [e, ha]))
  have ha1 := h1 (d - 1) (by omega)
  rw [ha] at ha1
  have hlga : lg a ≤ n := by rcases h3 a ha1.1 with q | q | q; rw [ha1.2] at q; omega; exact q.2.2.1; rw [ha1.2] at q; omega
  have hP := h4 (d - 1) (by omega)
  rw [ha, hc] at hP
  have hX : LX B M (lg a) a := LX_mkC hO hM3 (fun c g hE => hP.1 c g hE.1 hE) hP.2
  refine ⟨hX, ?_⟩
  generalize hlg' : (if 1 < d then up lg (st (d - 2)) (if lg (st (d - 2)) < lg a + 1 then lg a + 1 else lg (st (d - 2))) else lg) = lg'
  have lgn : ∀ t, (∀ j, j + 2 = d → st j ≠ t) → lg' t = lg t := by
    intro t ht
    subst hlg'
    split
    · rename_i q
      exact up_n (fun e => ht (d - 2) (by omega) e.symm)
    · rfl
  have lgp : 1 < d → lg' (st (d - 2)) = if lg (st (d - 2)) < lg a + 1 then lg a + 1 else lg (st (d - 2)) := by
    intro q
    subst hlg'
    rw [if_pos q, up_s]
  have hpa : ∀ j, j + 2 = d → st j ≠ a := fun j hj => oth j (by omega) (by omega)
  refine ⟨fun j hj => ?_, fun i j hi hj e => h2 i j (by omega) (by omega) e, fun t ht => ?_, fun j hj => ?_, fun j hj => ?_, ⟨h6.1, ?_, fun z => h6.2.2 hd⟩, ?_⟩
  · rw [up_n (oth j (by omega) (by omega))]; exact h1 j (by omega)
  · by_cases e : t = a
    · subst e
      rw [up_s, up_s, lgn t hpa]
      exact Or.inr (Or.inr ⟨rfl, by omega, by omega, hX⟩)
    · rw [up_n e, up_n e]
      rcases h3 t ht with q | ⟨q1, q2, q3, j, q4, q5⟩ | ⟨q1, q2, q3, q4⟩
      · exact Or.inl q
      · have hjd : j ≠ d - 1 := fun z => e (by rw [← q5, z, ha])
        refine Or.inr (Or.inl ⟨q1, q2, ?_, j, by omega, q5⟩)
        by_cases z : j + 2 = d
        · have : d - 2 = j := by omega
          have hq := lgp (by omega)
          rw [this, q5] at hq
          rw [hq]; split <;> omega
        · rw [lgn t (fun i hi w => z (by have := h2 i j (by omega) q4 (by rw [w, q5]); omega))]; omega
      · refine Or.inr (Or.inr ⟨q1, q2, ?_, ?_⟩)
        · rw [lgn t (fun i hi w => by have := (h1 i (by omega)).2; rw [w, q1] at this; omega)]; omega
        · rw [lgn t (fun i hi w => by have := (h1 i (by omega)).2; rw [w, q1] at this; omega)]; exact q4
  · have e : j = d - 2 := by omega
    obtain ⟨b1, b2, b3⟩ := h5 j (by omega)
    have hja := hpa j (by omega)
    rw [up_n hja]
    have hq := lgp (by omega)
    rw [← e] at hq
    rw [hq]
    have hsa : st (j + 1) = a := by rw [show j + 1 = d - 1 by omega]; exact ha
    rw [hsa] at b3
    have := b2.len b3 hX
    rw [show nc (st j) - 1 + 1 = nc (st j) by omega] at this
    exact this
  · obtain ⟨b1, b2, b3⟩ := h5 j (by omega)
    have hja : st j ≠ a := oth j (by omega) (by omega)
    rw [up_n hja, lgn (st j) (fun i hi w => by have := h2 i j (by omega) (by omega) w; omega)]
    exact ⟨b1, b2, b3⟩
  · by_cases e : own = a
    · rw [e, up_s]; omega
    · rw [up_n e]; exact h6.2.1
  · have := sumc_up (f := nc) (s := a) (v := nc a + 1) 256 ha1.1
    omega
/-- a way back to an open state: round and round -/
theorem LOG.rnd (hO : OKb B) (hM3 : M ≤ 3) (h : LOG B M own d mk st nc lg n) {a g : Nat} (hd : 0 < d) (ha : st (d - 1) = a) (hE : EG B M (nc a) a g) (hg : g < 256) (hm : mk g = 1) : ∀ k, ¬ AA B M k own := by
  obtain ⟨h1, h2, h3, h4, h5, h6, h7⟩ := h
  have suc : ∀ j, j < d → ∃ i, i < d ∧ okS B M (st i) ∧ gto B (st j) (st i) := by
    intro j hj
    by_cases e : j = d - 1
    · have : ∃ i, i < d ∧ st i = g := by
        rcases h3 g hg with q | ⟨_, _, _, q⟩ | q
        · rw [hm] at q; omega
        · exact q
        · rw [hm] at q; omega
      obtain ⟨i, i1, i2⟩ := this
      refine ⟨i, i1, ?_⟩
      rw [i2, e, ha]
      exact hE.go hO hM3
    · obtain ⟨b1, b2, b3⟩ := h5 j (by omega)
      exact ⟨j + 1, by omega, b3.go hO hM3⟩
  have all : ∀ k j, j < d → ¬ AA B M k (st j) := by
    intro k
    induction k with
    | zero =>
      intro j hj hA
      obtain ⟨i, i1, i2, i3⟩ := suc j hj
      exact hA _ i2 i3
    | succ k ih =>
      intro j hj hA
      obtain ⟨i, i1, i2, i3⟩ := suc j hj
      exact ih i i1 (hA _ i2 i3)
  intro k
  have := all k 0 hd
  rw [h6.2.2 hd] at this
  exact this
end LOGS
