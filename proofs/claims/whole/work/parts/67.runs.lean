/-! ===== runs ===== -/
/-- the greatest size that a place may have -/
def lim (B : BK) (M a x : Nat) : Nat := if x < bp B a then M else 0
def okS (B : BK) (M s : Nat) : Prop := s < 256 ∧ ∀ x, x < 3 → dg s x ≤ lim B M (s / 64) x
def okm (B : BK) (M s : Nat) : Nat → Bool
  | 0 => true
  | m + 1 => okm B M s m && decide (dg s m ≤ lim B M (s / 64) m)
theorem okm_iff {B : BK} {M s : Nat} (hs : s < 256) : okm B M s 3 = true ↔ okS B M s := by
  have e : okm B M s 3 = ((decide (dg s 0 ≤ lim B M (s / 64) 0) && decide (dg s 1 ≤ lim B M (s / 64) 1)) && decide (dg s 2 ≤ lim B M (s / 64) 2)) := rfl
  rw [e, Bool.and_eq_true, Bool.and_eq_true, decide_eq_true_eq, decide_eq_true_eq, decide_eq_true_eq]
  constructor
  · rintro ⟨⟨a, b⟩, c⟩
    exact ⟨hs, all3 a b c⟩
  · intro h
    exact ⟨⟨h.2 0 (by decide), h.2 1 (by decide)⟩, h.2 2 (by decide)⟩
theorem okm_t {B : BK} {M s m : Nat} (h1 : okm B M s m = true) (h2 : dg s m ≤ lim B M (s / 64) m) : okm B M s (m + 1) = true := by
  simp only [okm]; rw [h1, decide_eq_true h2]; rfl
theorem okm_f1 {B : BK} {M s m : Nat} (h1 : okm B M s m = false) : okm B M s (m + 1) = false := by
  simp only [okm]; rw [h1]; rfl
theorem okm_f2 {B : BK} {M s m : Nat} (h2 : ¬ dg s m ≤ lim B M (s / 64) m) : okm B M s (m + 1) = false := by
  simp only [okm]; rw [decide_eq_false h2, Bool.and_false]
theorem lim_le {B : BK} {M a x : Nat} : lim B M a x ≤ M := by unfold lim; split <;> omega
theorem st_dg {a x y z : Nat} (hx : x < 4) (hy : y < 4) (hz : z < 4) : (64 * a + x + 4 * y + 16 * z) / 64 = a ∧ dg (64 * a + x + 4 * y + 16 * z) 0 = x ∧ dg (64 * a + x + 4 * y + 16 * z) 1 = y ∧ dg (64 * a + x + 4 * y + 16 * z) 2 = z := by
  simp only [dg]; omega
theorem st_of {s : Nat} (hs : s < 256) : s = 64 * (s / 64) + dg s 0 + 4 * dg s 1 + 16 * dg s 2 := by
  simp only [dg]; omega
theorem sp_size {s m : Nat} (hs : s < 2 ^ 31) (hm : m < 16) {K : Int32 → Prop} (h : K (nI (dg s m))) : wp_X10_size (nI s) (nI m) K := by
  unfold wp_X10_size
  rw [show (nI s >>> (((2 : Int32) * nI m) &&& 31)) &&& (3 : Int32) = nI (dg s m) from bits2 hs hm]
  exact h
section RUNM
variable {B : BK} {sS : St} {sL : Int64} {M : Nat}
theorem sp_isState (hO : OKb B) (hM : MB sS B) (h9 : sS 9 0 = nI M) (hM3 : M ≤ 3) {s : Nat} (hs : s < 256) {K : Int32 → Prop} (h : K (bi (okm B M s 3))) : wp_X10_isState sS sL (nI s) K := by
  unfold wp_X10_isState
  refine lp_ind (fun q => ∃ m, m ≤ 3 ∧ q = (bi (okm B M s m), nI m)) (fun q => 3 - q.2.toNatClampNeg) ?_ _ ⟨0, by omega, rfl⟩
  rintro _ R ⟨m, hm, rfl⟩ hR
  unfold F_X10_isState_4
  dsimp only
  constructor
  · intro c
    have := le3 (y := m) (b := 3) (by omega) (by omega) c
    have : m = 3 := by omega
    subst this
    exact ⟨bi_zb _, h⟩
  · intro c
    have hm3 := nle3 (y := m) (b := 3) (by omega) (by omega) c
    have next : ∀ b : Int32, b = bi (okm B M s (m + 1)) → R (b, nI m + 1) := by
      intro b eb
      rw [nI_1]
      refine hR _ ⟨m + 1, by omega, by rw [eb]⟩ ?_
      dsimp only; rw [nI_clamp (by omega), nI_clamp (by omega)]; omega
    refine sp_size (by omega) (by omega) ?_
    have e2 : nI s / (64 : Int32) = nI (s / 64) := pk_div (by omega) (by decide) (by decide)
    have hd := dg_lt s m
    have a4 : s / 64 < 4 := by omega
    have hp3 := hO.2.1 _ a4
    rw [e2, nI_clamp (n := s / 64) (by omega), hM.2.1 _ a4, h9, bi_0, nI_leI (by omega) (by omega), nI_ltI (by omega) (by omega), nI_z (by omega)]
    refine ⟨fun c2 => ?_, fun c2 => ⟨vp_in_nI a4 (by decide), fun c3 => ⟨fun c4 => ?_, fun c4 => ?_⟩, fun c3 => ⟨fun c4 => ?_, fun c4 => ?_⟩⟩⟩
    · rintro _ rfl
      exact next _ (by rw [okm_f1 c2]; rfl)
    · rintro _ rfl
      exact next _ (by rw [okm_t (bt_of c2) (by omega)]; rfl)
    · rintro _ rfl
      exact next _ (by rw [okm_f2 (by unfold lim; rw [if_neg (by omega)]; omega)]; rfl)
    · rintro _ rfl
      exact next _ (by rw [okm_f2 (by unfold lim; rw [if_pos (by omega)]; omega)]; rfl)
    · rintro _ rfl
      exact next _ (by rw [okm_t (bt_of c2) (by unfold lim; rw [if_pos (by omega)]; omega)]; rfl)
/-- the state that is told -/
def SOs (B : BK) (M : Nat) (p q r w : Int32) (s : Nat) : Prop := ∃ a x y z, a < 4 ∧ x < 4 ∧ y < 4 ∧ z < 4 ∧ p = nI a ∧ q = nI x ∧ r = nI y ∧ w = nI z ∧ s = 64 * a + x + 4 * y + 16 * z ∧ okS B M s
theorem SOs.lt {p q r w : Int32} {s : Nat} (h : SOs B M p q r w s) : s < 256 := by
  obtain ⟨_, _, _, _, _, _, _, _, _, _, _, _, _, h⟩ := h
  exact h.1
theorem SOs.ok {p q r w : Int32} {s : Nat} (h : SOs B M p q r w s) : okS B M s := by
  obtain ⟨_, _, _, _, _, _, _, _, _, _, _, _, _, h⟩ := h
  exact h
theorem SOs.uni {p q r w : Int32} {s s' : Nat} (h : SOs B M p q r w s) (h' : SOs B M p q r w s') : s = s' := by
  obtain ⟨a, x, y, z, h1, h2, h3, h4, rfl, rfl, rfl, rfl, rfl, -⟩ := h
  obtain ⟨a', x', y', z', g1, g2, g3, g4, e1, e2, e3, e4, rfl, -⟩ := h'
  have := nI_eq0 (by omega) (by omega) e1
  have := nI_eq0 (by omega) (by omega) e2
  have := nI_eq0 (by omega) (by omega) e3
  have := nI_eq0 (by omega) (by omega) e4
  omega
theorem sp_stateOfM (hO : OKb B) (hM : MB sS B) (h9 : sS 9 0 = nI M) (hM3 : M ≤ 3) {p q r w : Int32} {K : Int32 → Prop} (h1 : ∀ s, SOs B M p q r w s → K (nI s)) (h0 : (∀ s, ¬ SOs B M p q r w s) → K (-1)) : wp_X10_stateOf sS sL p q r w K := by
  unfold wp_X10_stateOf
  refine sp_isActM (fun ha => ⟨fun e => absurd e (by decide), fun _ => ?_⟩) (fun ha => ⟨fun _ => h0 (fun s ⟨a, x, y, z, g1, _, _, _, g, _⟩ => ha ⟨a, g1, g⟩), fun e => absurd rfl e⟩)
  refine sp_inI (n := 4) (by decide) (by decide) (fun hx => ⟨fun e => absurd e (by decide), fun _ => ?_⟩) (fun hx => ⟨fun _ => h0 (fun s ⟨a, x, y, z, _, g1, _, _, _, g, _⟩ => hx ⟨x, g1, g⟩), fun e => absurd rfl e⟩)
  refine sp_inI (n := 4) (by decide) (by decide) (fun hy => ⟨fun e => absurd e (by decide), fun _ => ?_⟩) (fun hy => ⟨fun _ => h0 (fun s ⟨a, x, y, z, _, _, g1, _, _, _, g, _⟩ => hy ⟨y, g1, g⟩), fun e => absurd rfl e⟩)
  refine sp_inI (n := 4) (by decide) (by decide) (fun hz => ⟨fun e => absurd e (by decide), fun _ => ?_⟩) (fun hz => ⟨fun _ => h0 (fun s ⟨a, x, y, z, _, _, _, g1, _, _, _, g, _⟩ => hz ⟨z, g1, g⟩), fun e => absurd rfl e⟩)
  obtain ⟨a, ha, rfl⟩ := ha
  obtain ⟨x, hx, rfl⟩ := hx
  obtain ⟨y, hy, rfl⟩ := hy
  obtain ⟨z, hz, rfl⟩ := hz
  rintro _ rfl
  have e : (((64 : Int32) * nI a + nI x) + (4 : Int32) * nI y) + (16 : Int32) * nI z = nI (64 * a + x + 4 * y + 16 * z) := by
    rw [show (64 : Int32) * nI a = nI (64 * a) by rw [← pk_mul]; rfl, show (4 : Int32) * nI y = nI (4 * y) by rw [← pk_mul]; rfl, show (16 : Int32) * nI z = nI (16 * z) by rw [← pk_mul]; rfl, nI_add, nI_add, nI_add]
  rw [e]
  have hs : 64 * a + x + 4 * y + 16 * z < 256 := by omega
  refine sp_isState hO hM h9 hM3 hs ?_
  rw [bi_0]
  refine ⟨fun c => h0 (fun s hs' => ?_), fun c => h1 _ ⟨a, x, y, z, ha, hx, hy, hz, rfl, rfl, rfl, rfl, rfl, (okm_iff hs).mp (bt_of c)⟩⟩
  have hok := hs'.ok
  obtain ⟨a', x', y', z', g1, g2, g3, g4, e1, e2, e3, e4, rfl, -⟩ := hs'
  have i1 := nI_eq0 (by omega) (by omega) e1
  have i2 := nI_eq0 (by omega) (by omega) e2
  have i3 := nI_eq0 (by omega) (by omega) e3
  have i4 := nI_eq0 (by omega) (by omega) e4
  subst i1 i2 i3 i4
  have := (okm_iff hs).mpr hok
  rw [c] at this; cases this
end RUNM
theorem stw_ok : ∀ a, a < 4 → ∀ x, x < 4 → ∀ y, y < 4 → ∀ z, z < 4 → (((nI a <<< ((6 : Int32) &&& 31)) ||| (nI z <<< ((4 : Int32) &&& 31))) ||| (nI y <<< ((2 : Int32) &&& 31))) ||| nI x = nI (64 * a + x + 4 * y + 16 * z) := by decide +kernel
section RUNC
variable {B : BK} {sB sV : St} {M : Nat}
theorem sp_fits (hV : sV 0 0 = nI M) (hM3 : M ≤ 3) {p t2 : Int32} {l : Nat} (ht : (t2 = 0 ∧ l = 0) ∨ (t2 = 1 ∧ l = M)) {K : Int32 → Prop} (h1 : IX p (l + 1) → K 1) (h0 : ¬ IX p (l + 1) → K 0) : wp_X6_fits sV p t2 K := by
  unfold wp_X6_fits
  rw [hV]
  have z0 : (0 : Int32).toInt = 0 := by decide
  have zM := nI_toInt (n := M) (by omega)
  rcases ht with ⟨rfl, rfl⟩ | ⟨rfl, rfl⟩
  · have hi := IX_iff (p := p) (n := 0 + 1) (by decide)
    refine ⟨fun c => h0 (fun z => ?_), fun c => ⟨fun _ => ⟨fun c2 => h0 (fun z => ?_), fun c2 => h1 (hi.mpr ?_)⟩, fun z => absurd rfl z⟩⟩
    · have := hi.mp z; rw [ilt] at c; omega
    · have := hi.mp z; rw [ilt] at c2; omega
    · rw [ilt] at c c2; omega
  · have hi := IX_iff (p := p) (n := l + 1) (by omega)
    refine ⟨fun c => h0 (fun z => ?_), fun c => ⟨fun z => absurd z (by decide), fun _ => ⟨fun c2 => h0 (fun z => ?_), fun c2 => h1 (hi.mpr ?_)⟩⟩⟩
    · have := hi.mp z; rw [ilt] at c; omega
    · have := hi.mp z; rw [ilt] at c2; omega
    · rw [ilt] at c c2; omega
theorem SOs_mk {a x y z : Nat} (ha : a < 4) (hM3 : M ≤ 3) (hx : x ≤ lim B M a 0) (hy : y ≤ lim B M a 1) (hz : z ≤ lim B M a 2) : SOs B M (nI a) (nI x) (nI y) (nI z) (64 * a + x + 4 * y + 16 * z) := by
  have l0 := lim_le (B := B) (M := M) (a := a) (x := 0)
  have l1 := lim_le (B := B) (M := M) (a := a) (x := 1)
  have l2 := lim_le (B := B) (M := M) (a := a) (x := 2)
  obtain ⟨d, d0, d1, d2⟩ := st_dg (a := a) (x := x) (y := y) (z := z) (by omega) (by omega) (by omega)
  refine ⟨a, x, y, z, ha, by omega, by omega, by omega, rfl, rfl, rfl, rfl, rfl, by omega, ?_⟩
  rw [d]
  refine all3 ?_ ?_ ?_
  · rw [d0]; exact hx
  · rw [d1]; exact hy
  · rw [d2]; exact hz
theorem SOs_un {a s : Nat} {q r w : Int32} (ha : a < 4) (h : SOs B M (nI a) q r w s) : IX q (lim B M a 0 + 1) ∧ IX r (lim B M a 1 + 1) ∧ IX w (lim B M a 2 + 1) := by
  obtain ⟨a', x, y, z, g1, g2, g3, g4, e1, rfl, rfl, rfl, rfl, hok⟩ := h
  have i1 := nI_eq0 (by omega) (by omega) e1
  subst i1
  obtain ⟨d, d0, d1, d2⟩ := st_dg (a := a) g2 g3 g4
  have q0 := hok.2 0 (by decide)
  have q1 := hok.2 1 (by decide)
  have q2 := hok.2 2 (by decide)
  rw [d, d0] at q0
  rw [d, d1] at q1
  rw [d, d2] at q2
  exact ⟨⟨x, by omega, rfl⟩, ⟨y, by omega, rfl⟩, ⟨z, by omega, rfl⟩⟩
theorem sp_stateOfC (hO : OKb B) (hB : CB sB B) (hV : sV 0 0 = nI M) (hM3 : M ≤ 3) {a : Nat} (ha : a < 4) {q r w : Int32} {K : Int32 → Prop} (h1 : ∀ s, SOs B M (nI a) q r w s → K (nI s)) (h0 : (∀ s, ¬ SOs B M (nI a) q r w s) → K (-1)) : wp_X6_stateOf sV sB (nI a) q r w K := by
  unfold wp_X6_stateOf
  have hp3 := hO.2.1 a ha
  rw [nI_clamp (n := a) (by omega), hB.2.1 a ha]
  refine ⟨vp_in_nI ha (by decide), ?_⟩
  rintro _ rfl
  have k60 : ∀ t2 : Int32, (t2 = 0 ∧ lim B M a 2 = 0) ∨ (t2 = 1 ∧ lim B M a 2 = M) → IX q (lim B M a 0 + 1) → IX r (lim B M a 1 + 1) → J_X6_stateOf_60 sV (nI a) q r w w t2 K := by
    intro t2 ht hx hy
    unfold J_X6_stateOf_60
    refine sp_fits hV hM3 ht (fun hz => ⟨fun e => absurd e (by decide), fun _ => ?_⟩) (fun hz => ⟨fun _ => h0 (fun s hs => hz (SOs_un ha hs).2.2), fun e => absurd rfl e⟩)
    obtain ⟨x, hx, rfl⟩ := hx
    obtain ⟨y, hy, rfl⟩ := hy
    obtain ⟨z, hz, rfl⟩ := hz
    have l0 := lim_le (B := B) (M := M) (a := a) (x := 0)
    have l1 := lim_le (B := B) (M := M) (a := a) (x := 1)
    have l2 := lim_le (B := B) (M := M) (a := a) (x := 2)
    rw [stw_ok a ha x (by omega) y (by omega) z (by omega)]
    exact h1 _ (SOs_mk ha hM3 (by omega) (by omega) (by omega))
  have lm : ∀ x, x < 3 → (nI (bp B a) ≤ nI x → lim B M a x = 0) ∧ (¬ nI (bp B a) ≤ nI x → lim B M a x = M) := by
    intro x hx
    rw [nI_leI (by omega) (by omega)]
    unfold lim
    exact ⟨fun z => if_neg (by omega), fun z => if_pos (by omega)⟩
  have k40 : ∀ t2 : Int32, (t2 = 0 ∧ lim B M a 1 = 0) ∨ (t2 = 1 ∧ lim B M a 1 = M) → IX q (lim B M a 0 + 1) → J_X6_stateOf_40 sV (nI a) q r w (nI (bp B a)) r t2 K := by
    intro t2 ht hx
    unfold J_X6_stateOf_40
    refine sp_fits hV hM3 ht (fun hy => ⟨fun e => absurd e (by decide), fun _ => ⟨fun c => k60 _ (Or.inl ⟨rfl, (lm 2 (by decide)).1 c⟩) hx hy, fun c => k60 _ (Or.inr ⟨rfl, (lm 2 (by decide)).2 c⟩) hx hy⟩⟩) (fun hz => ⟨fun _ => h0 (fun s hs => hz (SOs_un ha hs).2.1), fun e => absurd rfl e⟩)
  have k20 : ∀ t2 : Int32, (t2 = 0 ∧ lim B M a 0 = 0) ∨ (t2 = 1 ∧ lim B M a 0 = M) → J_X6_stateOf_20 sV (nI a) q r w (nI (bp B a)) q t2 K := by
    intro t2 ht
    unfold J_X6_stateOf_20
    refine sp_fits hV hM3 ht (fun hx => ⟨fun e => absurd e (by decide), fun _ => ⟨fun c => k40 _ (Or.inl ⟨rfl, (lm 1 (by decide)).1 c⟩) hx, fun c => k40 _ (Or.inr ⟨rfl, (lm 1 (by decide)).2 c⟩) hx⟩⟩) (fun hz => ⟨fun _ => h0 (fun s hs => hz (SOs_un ha hs).1), fun e => absurd rfl e⟩)
  exact ⟨fun c => k20 _ (Or.inl ⟨rfl, (lm 0 (by decide)).1 c⟩), fun c => k20 _ (Or.inr ⟨rfl, (lm 0 (by decide)).2 c⟩)⟩
/-- the greatest size and 1 at the place y, by the first m places -/
def gA (M w s y : Nat) : Nat → Nat
  | 0 => M + 1
  | m + 1 => if dg w (3 * m + y) = 0 then gA M w s y m else if (if dg w (3 * m + y) = 2 then dg s m else dg s m + 1) < gA M w s y m then (if dg w (3 * m + y) = 2 then dg s m else dg s m + 1) else gA M w s y m
theorem gA_le (M w s y m : Nat) : gA M w s y m ≤ M + 1 := by
  induction m with
  | zero => exact Nat.le_refl _
  | succ m ih =>
    simp only [gA]
    generalize (if dg w (3 * m + y) = 2 then dg s m else dg s m + 1) = v
    split
    · exact ih
    · split
      · rename_i h; omega
      · exact ih
theorem gA_lt {M w s y b : Nat} : ∀ m, b < gA M w s y m ↔ b ≤ M ∧ ∀ x, x < m → dg w (3 * x + y) = 0 ∨ b < (if dg w (3 * x + y) = 2 then dg s x else dg s x + 1) := by
  intro m
  induction m with
  | zero => exact ⟨fun h => ⟨by simp only [gA] at h; omega, fun x hx => absurd hx (by omega)⟩, fun h => by simp only [gA]; omega⟩
  | succ m ih =>
    simp only [gA]
    have step : ∀ P : Prop, (P ↔ (b ≤ M ∧ ∀ x, x < m → dg w (3 * x + y) = 0 ∨ b < (if dg w (3 * x + y) = 2 then dg s x else dg s x + 1)) ∧ (dg w (3 * m + y) = 0 ∨ b < (if dg w (3 * m + y) = 2 then dg s m else dg s m + 1))) → (P ↔ b ≤ M ∧ ∀ x, x < m + 1 → dg w (3 * x + y) = 0 ∨ b < (if dg w (3 * x + y) = 2 then dg s x else dg s x + 1)) := by
      intro P hP
      rw [hP]
      constructor
      · rintro ⟨⟨h1, h2⟩, h3⟩
        refine ⟨h1, fun x hx => ?_⟩
        by_cases e : x = m
        · subst e; exact h3
        · exact h2 x (by omega)
      · rintro ⟨h1, h2⟩
        exact ⟨⟨h1, fun x hx => h2 x (by omega)⟩, h2 m (by omega)⟩
    refine step _ ?_
    rw [← ih]
    generalize (if dg w (3 * m + y) = 2 then dg s m else dg s m + 1) = v
    split
    · rename_i e
      exact ⟨fun h => ⟨h, Or.inl e⟩, fun h => h.1⟩
    · rename_i e
      split
      · rename_i e2
        exact ⟨fun h => ⟨by omega, Or.inr h⟩, fun h => by rcases h.2 with z | z; exact absurd z e; exact z⟩
      · rename_i e2
        exact ⟨fun h => ⟨h, Or.inr (by omega)⟩, fun h => h.1⟩
theorem pred_lt {a b : Nat} (ha : a < 2 ^ 30) (hb : b < 2 ^ 30) : nI a - (1 : Int32) < nI b - (1 : Int32) ↔ a < b := by
  have e1 := pk_sub_toInt (a := a) (b := 1) ha (by decide)
  have e2 := pk_sub_toInt (a := b) (b := 1) hb (by decide)
  rw [ilt, show (1 : Int32) = nI 1 from rfl, e1, e2]
  omega
theorem sp_greatestAt (hV : sV 0 0 = nI M) (hM3 : M ≤ 3) {w s y : Nat} (hw : GW w) (hs : s < 256) (hy : y < 3) {K : Int32 → Prop} (h : K (nI (gA M w s y 3) - 1)) : wp_X6_greatestAt sV (nI w) (nI y) (nI s) K := by
  unfold wp_X6_greatestAt
  rw [hV]
  rintro _ rfl
  have hw1 := hw.1
  refine lp_ind (fun q => ∃ m, m ≤ 3 ∧ q = (nI (gA M w s y m) - 1, nI m)) (fun q => 3 - q.2.toNatClampNeg) ?_ _ ⟨0, by omega, by simp only [gA]; rw [nI_pred]; rfl⟩
  rintro _ R ⟨m, hm, rfl⟩ hR
  unfold F_X6_greatestAt_9
  dsimp only
  constructor
  · intro c
    have := le3 (y := m) (b := 3) (by omega) (by omega) c
    have : m = 3 := by omega
    subst this
    exact h
  · intro c
    have hm3 := nle3 (y := m) (b := 3) (by omega) (by omega) c
    have next : ∀ b : Int32, b = nI (gA M w s y (m + 1)) - 1 → R (b, nI m + 1) := by
      intro b eb
      rw [nI_1]
      refine hR _ ⟨m + 1, by omega, by rw [eb]⟩ ?_
      dsimp only; rw [nI_clamp (by omega), nI_clamp (by omega)]; omega
    refine sp_at (by omega) hm3 hy ?_
    have hd := hw.2 (3 * m + y) (by omega)
    have hds := dg_lt s m
    have hg := gA_le M w s y m
    have e2 : nI (dg w (3 * m + y)) = (2 : Int32) ↔ dg w (3 * m + y) = 2 := nI_eq (b := 2) (by omega) (by decide)
    rw [nI_z (by omega), e2, show (nI s >>> (((2 : Int32) * nI m) &&& 31)) &&& (3 : Int32) = nI (dg s m) from bits2 (by omega) (by omega)]
    refine ⟨fun c2 => ?_, fun c2 => ?_⟩
    · rintro _ rfl
      exact next _ (by simp only [gA]; rw [if_pos c2])
    · rintro _ rfl
      unfold J_X6_greatestAt_56
      refine ⟨fun c3 => ?_, fun c3 => ?_⟩
      · rintro _ rfl _ rfl
        refine next _ ?_
        simp only [gA]
        rw [if_neg c2]
        simp only [if_pos c3, pred_lt (a := dg s m) (b := gA M w s y m) (by omega) (by omega)]
        split <;> rfl
      · rintro _ rfl _ rfl
        refine next _ ?_
        simp only [gA]
        rw [if_neg c2]
        have e3 : nI (dg s m) = nI (dg s m + 1) - 1 := (nI_pred _).symm
        rw [e3]
        simp only [if_neg c3, pred_lt (a := dg s m + 1) (b := gA M w s y m) (by omega) (by omega)]
        split <;> rfl
/-- the greatest size and 1 behind a call -/
abbrev ga (B : BK) (M c s y : Nat) : Nat := gA M (ba B c) s y 3
def acc (a : Nat) (f : Nat → Nat) (y : Nat) : Nat := 64 * a + (if 0 < y then f 0 else 0) + 4 * (if 1 < y then f 1 else 0) + 16 * (if 2 < y then f 2 else 0)
theorem accor_ok : ∀ a, a < 4 → ∀ x, x < 4 → ∀ y, y < 4 → ∀ z, z < 4 → nI (64 * a) ||| (nI x <<< (((2 : Int32) * nI 0) &&& 31)) = nI (64 * a + x) ∧ nI (64 * a + x) ||| (nI y <<< (((2 : Int32) * nI 1) &&& 31)) = nI (64 * a + x + 4 * y) ∧ nI (64 * a + x + 4 * y) ||| (nI z <<< (((2 : Int32) * nI 2) &&& 31)) = nI (64 * a + x + 4 * y + 16 * z) := by decide +kernel
theorem acc_or {a y : Nat} {f : Nat → Nat} (ha : a < 4) (hf : ∀ i, i ≤ y → f i < 4) (hy : y < 3) : nI (acc a f y) ||| (nI (f y) <<< (((2 : Int32) * nI y) &&& 31)) = nI (acc a f (y + 1)) := by
  match y, hy with
  | 0, _ => exact (accor_ok a ha (f 0) (hf 0 (by omega)) 0 (by omega) 0 (by omega)).1
  | 1, _ => exact (accor_ok a ha (f 0) (hf 0 (by omega)) (f 1) (hf 1 (by omega)) 0 (by omega)).2.1
  | 2, _ => exact (accor_ok a ha (f 0) (hf 0 (by omega)) (f 1) (hf 1 (by omega)) (f 2) (hf 2 (by omega))).2.2
  | y + 3, h => exact absurd h (by omega)
theorem acc_dg {a p : Nat} {f : Nat → Nat} (ha : a < 4) (hf : ∀ i, i < p → f i < 4) : acc a f p < 256 ∧ acc a f p / 64 = a ∧ ∀ i, i < 3 → dg (acc a f p) i = if i < p then f i else 0 := by
  have b : ∀ i, (if i < p then f i else 0) < 4 := fun i => by split; rename_i h; exact hf i h; omega
  have b0 := b 0; have b1 := b 1; have b2 := b 2
  obtain ⟨d, d0, d1, d2⟩ := st_dg (a := a) b0 b1 b2
  refine ⟨by unfold acc; omega, d, all3 d0 d1 d2⟩
/-- all the greatest sizes there are -/
def gz (B : BK) (M c s : Nat) : Nat → Bool
  | 0 => true
  | y + 1 => gz B M c s y && decide (0 < ga B M c s y)
theorem gz_iff {c s : Nat} : ∀ y, gz B M c s y = true ↔ ∀ j, j < y → 0 < ga B M c s j := by
  intro y
  induction y with
  | zero => exact ⟨fun _ j h => absurd h (by omega), fun _ => rfl⟩
  | succ y ih =>
    simp only [gz]
    rw [Bool.and_eq_true, ih, decide_eq_true_eq]
    constructor
    · rintro ⟨h1, h2⟩ j hj
      by_cases e : j = y
      · subst e; exact h2
      · exact h1 j (by omega)
    · intro h
      exact ⟨fun j hj => h j (by omega), h y (by omega)⟩
/-- the greatest state behind a call -/
def gaf (B : BK) (M c s : Nat) : Option Nat := if gz B M c s (bp B (bt B c)) = true then some (acc (bt B c) (fun y => ga B M c s y - 1) (bp B (bt B c))) else none
def oI (o : Option Nat) : Int32 := match o with
  | none => -1
  | some g => nI g
theorem sp_greatestAfter (hO : OKb B) (hB : CB sB B) (hV : sV 0 0 = nI M) (hM3 : M ≤ 3) {c s : Nat} (hc : c < bN B) (hs : s < 256) {K : Int32 → Prop} (h : K (oI (gaf B M c s))) : wp_X6_greatestAfter sV sB (nI c) (nI s) K := by
  unfold wp_X6_greatestAfter
  have hN := hO.1
  obtain ⟨f4, t4, gw, -⟩ := hO.2.2 c hc
  obtain ⟨ef, et, ea⟩ := hB.2.2 c hc
  have pt := hO.2.1 _ t4
  have i8 : vp_in (nI c) 8 := vp_in_nI (by omega) (by decide)
  have i4 : vp_in (nI (bt B c)) 4 := vp_in_nI t4 (by decide)
  have hgl : ∀ y, ga B M c s y ≤ 4 := fun y => by have := gA_le M (ba B c) s y 3; show gA M (ba B c) s y 3 ≤ 4; omega
  rw [nI_clamp (n := c) (by omega), et]
  refine ⟨i8, ?_⟩
  rintro _ rfl _ rfl
  rw [show nI (bt B c) <<< ((6 : Int32) &&& 31) = nI (bt B c * 2 ^ 6) from shl_nI (k := 6) (by decide) (by omega)]
  refine lp_ind (fun q => ∃ y, y ≤ bp B (bt B c) ∧ q = (nI (acc (bt B c) (fun y => ga B M c s y - 1) y), nI y) ∧ gz B M c s y = true) (fun q => 3 - q.2.toNatClampNeg) ?_ _ ⟨0, by omega, by rw [show acc (bt B c) (fun y => ga B M c s y - 1) 0 = bt B c * 2 ^ 6 by unfold acc; simp; omega]; rfl, rfl⟩
  rintro _ R ⟨y, hy, rfl, hg⟩ hR
  unfold F_X6_greatestAfter_18
  dsimp only
  rw [nI_clamp (n := bt B c) (by omega), hB.2.1 _ t4, nI_clamp (n := c) (by omega), ea, nI_leI (by omega) (by omega)]
  refine ⟨i4, fun c1 => ?_, fun c1 => ⟨i8, sp_greatestAt hV hM3 gw hs (by omega) ?_⟩⟩
  · have : y = bp B (bt B c) := by omega
    subst this
    unfold gaf at h
    rw [if_pos hg] at h
    exact h
  · have hgy := hgl y
    rcases Nat.eq_zero_or_pos (ga B M c s y) with q | q
    · have q' : gA M (ba B c) s y 3 = 0 := q
      rw [q']
      refine ⟨fun z => absurd z (by decide), fun _ => ?_⟩
      have hz : ¬ gz B M c s (bp B (bt B c)) = true := fun z => by
        have := (gz_iff _).mp z y (by omega)
        omega
      unfold gaf at h
      rw [if_neg hz] at h
      exact h
    · have q' : 0 < gA M (ba B c) s y 3 := q
      rw [nI_sub1 q']
      refine ⟨fun _ => ?_, fun z => absurd (nI_pos' (by have : gA M (ba B c) s y 3 ≤ 4 := hgy; omega)) z⟩
      have e := acc_or (a := bt B c) (y := y) (f := fun y => ga B M c s y - 1) t4 (fun i _ => by have := hgl i; omega) (by omega)
      rw [show gA M (ba B c) s y 3 - 1 = (fun y => ga B M c s y - 1) y from rfl, e]
      rintro _ rfl _ rfl
      rw [nI_1]
      refine hR _ ⟨y + 1, by omega, rfl, ?_⟩ ?_
      · simp only [gz]; rw [hg, decide_eq_true q]; rfl
      · dsimp only; rw [nI_clamp (by omega), nI_clamp (by omega)]; omega
end RUNC
