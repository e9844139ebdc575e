def gto (B : BK) (s t : Nat) : Prop := ∃ c, c < bN B ∧ LD B c s t
/-- all runs from s have at most k calls -/
def AA (B : BK) (M : Nat) : Nat → Nat → Prop
  | 0, s => ∀ t, okS B M t → ¬ gto B s t
  | k + 1, s => ∀ t, okS B M t → gto B s t → AA B M k t
/-- the longest run from s has v calls -/
def LX (B : BK) (M v s : Nat) : Prop := AA B M v s ∧ ∀ k, k < v → ¬ AA B M k s
section LONG
variable {B : BK} {M : Nat}
theorem AA_0 {s : Nat} : AA B M 0 s ↔ ∀ t, okS B M t → ¬ gto B s t := Iff.rfl
theorem AA_s {k s : Nat} : AA B M (k + 1) s ↔ ∀ t, okS B M t → gto B s t → AA B M k t := Iff.rfl
theorem AA_up : ∀ k s, AA B M k s → AA B M (k + 1) s := by
  intro k
  induction k with
  | zero => intro s h t ht hg; exact absurd hg (h t ht)
  | succ k ih => intro s h t ht hg; exact ih t (h t ht hg)
theorem AA_le {k l s : Nat} (h : AA B M k s) (hl : k ≤ l) : AA B M l s := by
  obtain ⟨d, rfl⟩ : ∃ d, l = k + d := ⟨l - k, by omega⟩
  clear hl
  induction d with
  | zero => exact h
  | succ d ih => exact AA_up _ _ ih
theorem LX.uni {v v' s : Nat} (h : LX B M v s) (h' : LX B M v' s) : v = v' := by
  rcases Nat.lt_trichotomy v v' with q | q | q
  · exact absurd h.1 (h'.2 v q)
  · exact q
  · exact absurd h'.1 (h.2 v' q)
theorem LX_mk {v s : Nat} (h1 : ∀ t, okS B M t → gto B s t → ∃ w, AA B M w t ∧ w + 1 ≤ v) (h2 : v = 0 ∨ ∃ t, okS B M t ∧ gto B s t ∧ LX B M (v - 1) t) : LX B M v s := by
  constructor
  · cases v with
    | zero =>
      intro t ht hg
      obtain ⟨w, _, h⟩ := h1 t ht hg
      omega
    | succ v =>
      intro t ht hg
      obtain ⟨w, hw, hle⟩ := h1 t ht hg
      exact AA_le hw (by omega)
  · intro k hk hA
    rcases h2 with e | ⟨t, ht, hg, hx⟩
    · omega
    · cases k with
      | zero => exact hA t ht hg
      | succ k => exact hx.2 k (by omega) (hA t ht hg)
theorem arcok_up {c s s' t k : Nat} (h : dg s (k / 3) ≤ dg s' (k / 3)) (ha : arcok B c s t k = true) : arcok B c s' t k = true := by
  unfold arcok at *
  rw [Bool.or_eq_true, decide_eq_true_eq] at *
  rcases ha with q | q
  · exact Or.inl q
  · refine Or.inr ?_
    split at q
    · rename_i e
      rw [if_pos e]
      have := of_decide_eq_true q
      exact decide_eq_true (by omega)
    · rename_i e
      rw [if_neg e]
      have := of_decide_eq_true q
      exact decide_eq_true (by omega)
theorem gto_up {g t u : Nat} (h : box g t = true) (hg : gto B t u) : gto B g u := by
  obtain ⟨h1, h2⟩ := box_iff.mp h
  obtain ⟨c, hc, l1, l2, l3⟩ := hg
  exact ⟨c, hc, l1.trans h1, l2, fun k hk => arcok_up (h2 (k / 3) (by omega)) (l3 k hk)⟩
/-- from smaller sizes no longer runs -/
theorem AA_down {g t : Nat} (h : box g t = true) : ∀ k, AA B M k g → AA B M k t := by
  intro k
  cases k with
  | zero => intro hA u hu hg; exact hA u hu (gto_up h hg)
  | succ k => intro hA u hu hg; exact hA u hu (gto_up h hg)
theorem box_rf (g : Nat) : box g g = true := box_iff.mpr ⟨rfl, fun y _ => Nat.le_refl _⟩
/-- a greatest state behind a call -/
def EG (B : BK) (M c s g : Nat) : Prop := c < bN B ∧ bf B c = s / 64 ∧ gaf B M c s = some g
theorem EG.go (hO : OKb B) (hM3 : M ≤ 3) {c s g : Nat} (h : EG B M c s g) : okS B M g ∧ gto B s g := by
  obtain ⟨h1, h2, h3⟩ := h
  obtain ⟨g1, g2, g3⟩ := gaf_some hO hM3 h1 h2 h3
  have := (g3 g g1.1).mpr (box_rf g)
  exact ⟨g1, c, h1, this.2⟩
theorem LX_mkC (hO : OKb B) (hM3 : M ≤ 3) {v s : Nat} (h1 : ∀ c g, EG B M c s g → ∃ w, AA B M w g ∧ w + 1 ≤ v) (h2 : v = 0 ∨ ∃ c g, EG B M c s g ∧ LX B M (v - 1) g) : LX B M v s := by
  refine LX_mk (fun t ht hg => ?_) ?_
  · obtain ⟨c, hc, hl⟩ := hg
    cases e : gaf B M c s with
    | none => exact absurd hl (gaf_none hO hc hl.1 e t ht)
    | some g =>
      obtain ⟨g1, g2, g3⟩ := gaf_some hO hM3 hc hl.1 e
      obtain ⟨w, hw, hle⟩ := h1 c g ⟨hc, hl.1, e⟩
      exact ⟨w, AA_down ((g3 t ht.1).mp ⟨ht, hl⟩) w hw, hle⟩
  · rcases h2 with e | ⟨c, g, hE, hx⟩
    · exact Or.inl e
    · obtain ⟨g1, g2⟩ := hE.go hO hM3
      exact Or.inr ⟨g, g1, g2, hx⟩
/-- what longest answers -/
def AL (B : BK) (M s : Nat) (A : Int32) : Prop := (∃ v, LX B M v s ∧ A = nI v) ∨ ((∀ k, ¬ AA B M k s) ∧ A = -4)
theorem AL.uni {s : Nat} {A A' : Int32} (h : AL B M s A) (h' : AL B M s A') : A = A' := by
  rcases h with ⟨v, h1, h2⟩ | ⟨h1, h2⟩
  · rcases h' with ⟨v', g1, g2⟩ | ⟨g1, g2⟩
    · rw [h2, g2, h1.uni g1]
    · exact absurd h1.1 (g1 v)
  · rcases h' with ⟨v', g1, g2⟩ | ⟨g1, g2⟩
    · exact absurd g1.1 (h1 v')
    · rw [h2, g2]
theorem cb_flip {P Q : Nat → Bool} {s : Nat} (h1 : P s = true) (h2 : Q s = false) (h3 : ∀ t, t ≠ s → Q t = P t) : ∀ n, s < n → cb Q n + 1 = cb P n := by
  intro n
  induction n with
  | zero => intro h; omega
  | succ n ih =>
    intro hn
    simp only [cb]
    by_cases e : n = s
    · subst e
      rw [h1, h2, cb_congr n (fun t ht => h3 t (by omega))]
      rfl
    · rw [h3 n e]
      have := ih (by omega)
      omega
/-- how many are not known yet -/
def NG (n6 : Nat) (f : Nat → Int32) : Nat := cb (fun s => decide (f s < 0)) n6
def LGI (B : BK) (M n6 : Nat) (f : Nat → Int32) : Prop := ∀ s, s < 256 → f s = -1 ∨ ∃ v, f s = nI v ∧ v + NG n6 f < 256 ∧ LX B M v s
def stk (B : BK) (M : Nat) (f : Nat → Int32) (s : Nat) : Prop := ∃ t, okS B M t ∧ gto B s t ∧ f t < 0
theorem LGI.cs {n6 : Nat} {f : Nat → Int32} (h : LGI B M n6 f) {s : Nat} (hs : s < 256) : (f s < 0 ∧ f s = -1) ∨ ∃ v, v < 256 ∧ f s = nI v ∧ 0 ≤ f s ∧ v + NG n6 f < 256 ∧ LX B M v s := by
  rcases h s hs with e | ⟨v, e, h1, h2⟩
  · rw [e]; exact Or.inl ⟨by decide, rfl⟩
  · exact Or.inr ⟨v, by omega, e, by rw [e]; exact nI_pos' (by omega), h1, h2⟩
theorem stk_end {f : Nat → Int32} (h : ∀ s, okS B M s → f s < 0 → stk B M f s) : ∀ k s, okS B M s → f s < 0 → ¬ AA B M k s := by
  intro k
  induction k with
  | zero =>
    intro s hs hf hA
    obtain ⟨t, h1, h2, h3⟩ := h s hs hf
    exact hA t h1 h2
  | succ k ih =>
    intro s hs hf hA
    obtain ⟨t, h1, h2, h3⟩ := h s hs hf
    exact ih t h1 h3 (hA t h1 h2)
end LONG
section LONGM
variable {B : BK} {sS : St} {sL : Int64} {M n6 : Nat}
theorem sp_long21 {E : St → Prop} (h : ∀ s', (∀ t, t < 256 → s' 33 t = -1) → (∀ q, q ≠ 33 → s' q = sS q) → E s') : Lp (F_X10_longest_21 E) ((0 : Int32), sS) := by
  refine lp_ind (fun q => ∃ m s, m ≤ 256 ∧ q = (nI m, s) ∧ (∀ t, t < m → s 33 t = -1) ∧ ∀ q, q ≠ 33 → s q = sS q) (fun q => 256 - q.1.toNatClampNeg) ?_ _ ⟨0, sS, by omega, rfl, fun t ht => absurd ht (by omega), fun _ _ => rfl⟩
  rintro _ R ⟨m, s, hm, rfl, h1, h2⟩ hR
  unfold F_X10_longest_21
  dsimp only
  constructor
  · intro c
    have := le3 (y := m) (b := 256) (by omega) (by omega) c
    have : m = 256 := by omega
    subst this
    exact h s h1 h2
  · intro c
    have hm2 := nle3 (y := m) (b := 256) (by omega) (by omega) c
    refine ⟨vp_in_nI hm2 (by decide), ?_⟩
    rintro _ rfl _ rfl
    rw [nI_1]
    have hcl : (nI m).toNatClampNeg = m := nI_clamp (by omega)
    refine hR _ ⟨m + 1, _, by omega, rfl, fun t ht => ?_, fun q hq => by rw [ua_n hq]; exact h2 q hq⟩ ?_
    · rw [ua_s, hcl]
      by_cases e : t = m
      · subst e; rw [pk_us]
      · rw [pk_un e]; exact h1 t (by omega)
    · dsimp only; rw [nI_clamp (by omega), nI_clamp (by omega)]; omega
theorem sp_long90 (hO : OKb B) (hM : MB sS B) (h9 : sS 9 0 = nI M) (hM3 : M ≤ 3) (h6 : n6 = 256) (hL : LGI B M n6 (sS 33)) {s : Nat} (hs : s < 256) {E : Int32 → Prop} (hn : stk B M (sS 33) s → E (-1)) (hp : ∀ v, LX B M v s → v + NG n6 (sS 33) ≤ 256 → E (nI v)) : Lp (F_X10_longest_90 sS sL (nI s) E) ((0 : Int32), (0 : Int32)) := by
  have hNG : NG n6 (sS 33) ≤ 256 := by
    have := cb_le (fun s => decide (sS 33 s < 0)) n6
    unfold NG; omega
  refine lp_ind (fun q => ∃ m, m ≤ 256 ∧ ((∃ v, q = (nI v, nI m) ∧ v + NG n6 (sS 33) ≤ 256 ∧ (∀ t, t < m → okS B M t → gto B s t → ∃ w, AA B M w t ∧ w + 1 ≤ v) ∧ (v = 0 ∨ ∃ t, okS B M t ∧ gto B s t ∧ LX B M (v - 1) t)) ∨ (q = (-1, nI m) ∧ stk B M (sS 33) s))) (fun q => 256 - q.2.toNatClampNeg) ?_ _ ⟨0, by omega, Or.inl ⟨0, rfl, by omega, fun t ht => absurd ht (by omega), Or.inl rfl⟩⟩
  rintro _ R ⟨m, hm, ⟨v, rfl, hv, h1, h2⟩ | ⟨rfl, h1⟩⟩ hR
  · unfold F_X10_longest_90
    dsimp only
    constructor
    · intro c
      have := le3 (y := m) (b := 256) (by omega) (by omega) c
      exact hp v (LX_mk (fun t ht hg => h1 t (by have := ht.1; omega) ht hg) h2) hv
    · intro c
      have hm2 := nle3 (y := m) (b := 256) (by omega) (by omega) c
      have next : ∀ v' : Nat, v' + NG n6 (sS 33) ≤ 256 → v ≤ v' → (okS B M m → gto B s m → ∃ w, AA B M w m ∧ w + 1 ≤ v') → (v' = 0 ∨ ∃ t, okS B M t ∧ gto B s t ∧ LX B M (v' - 1) t) → R (nI v', nI m + 1) := by
        intro v' e1 e2 e3 e4
        rw [nI_1]
        refine hR _ ⟨m + 1, by omega, Or.inl ⟨v', rfl, e1, fun t ht hok hg => ?_, e4⟩⟩ ?_
        · by_cases e : t = m
          · subst e; exact e3 hok hg
          · obtain ⟨w, a, b⟩ := h1 t (by omega) hok hg
            exact ⟨w, a, by omega⟩
        · dsimp only; rw [nI_clamp (by omega), nI_clamp (by omega)]; omega
      refine ⟨fun z => absurd z (nI_pos (by omega)), fun _ => sp_isState hO hM h9 hM3 hm2 ?_⟩
      rw [bi_0]
      refine ⟨fun c2 => ?_, fun c2 => sp_goesTo hO hM hs hm2 ?_⟩
      · rintro _ rfl
        refine next v hv (Nat.le_refl _) (fun hok _ => ?_) h2
        have := (okm_iff hm2).mpr hok
        rw [c2] at this; cases this
      · have hok := (okm_iff hm2).mp (bt_of c2)
        rw [bi_0]
        refine ⟨fun c3 => ?_, fun c3 => ⟨vp_in_nI hm2 (by decide), ?_⟩⟩
        · rintro _ rfl
          refine next v hv (Nat.le_refl _) (fun _ hg => ?_) h2
          have := (gtm_iff _).mpr hg
          rw [c3] at this; cases this
        · have hg : gto B s m := (gtm_iff _).mp (bt_of c3)
          rw [nI_clamp (n := m) (by omega)]
          rcases hL.cs hm2 with ⟨f1, f2⟩ | ⟨w, w1, w2, w3, w4, w5⟩
          · refine ⟨fun z => ?_, fun _ => ?_⟩
            · rw [f2] at z; exact absurd z (by decide)
            · rintro _ rfl
              rw [nI_1]
              refine hR _ ⟨m + 1, by omega, Or.inr ⟨rfl, m, hok, hg, f1⟩⟩ ?_
              dsimp only; rw [nI_clamp (by omega), nI_clamp (by omega)]; omega
          · refine ⟨fun _ => ⟨vp_in_nI hm2 (by decide), ?_⟩, fun z => absurd w3 z⟩
            rw [w2, nI_1, nI_leI (by omega) (by omega)]
            refine ⟨fun c4 => ?_, fun c4 => ⟨vp_in_nI hm2 (by decide), ?_⟩⟩
            · rintro _ rfl
              exact next v hv (Nat.le_refl _) (fun _ _ => ⟨w, w5.1, c4⟩) h2
            · rintro _ rfl _ rfl
              exact next (w + 1) (by omega) (by omega) (fun _ _ => ⟨w, w5.1, Nat.le_refl _⟩) (Or.inr ⟨m, hok, hg, by rw [Nat.add_sub_cancel]; exact w5⟩)
  · unfold F_X10_longest_90
    dsimp only
    exact ⟨fun _ => hn h1, fun _ => ⟨fun _ => hn h1, fun z => absurd (by decide) z⟩⟩
theorem fr33 {s u : St} (hF : ∀ q, q ≠ 33 → u q = s q) (hM : MB s B) : MB u B := by
  refine ⟨by rw [hF 3 (by decide)]; exact hM.1, fun a ha => by rw [hF 2 (by decide)]; exact hM.2.1 a ha, fun c hc => ?_⟩
  obtain ⟨h1, h2, h3⟩ := hM.2.2 c hc
  exact ⟨by rw [hF 4 (by decide)]; exact h1, by rw [hF 5 (by decide)]; exact h2, fun k hk => by rw [hF 6 (by decide)]; exact h3 k hk⟩
/-- one round over all states -/
theorem sp_long57 (hO : OKb B) (hM : MB sS B) (h9 : sS 9 0 = nI M) (hM3 : M ≤ 3) (h6 : n6 = 256) (hL : LGI B M n6 (sS 33)) {R46 : Int32 × St → Prop} (h1 : ∀ u, LGI B M n6 (u 33) → (∀ q, q ≠ 33 → u q = sS q) → NG n6 (u 33) < NG n6 (sS 33) → R46 (1, u)) (h0 : ∀ u, LGI B M n6 (u 33) → (∀ q, q ≠ 33 → u q = sS q) → (∀ s, okS B M s → u 33 s < 0 → stk B M (u 33) s) → R46 (0, u)) : Lp (F_X10_longest_57 sL R46) ((0 : Int32), (0 : Int32), sS) := by
  refine lp_ind (fun q => ∃ b i u, i ≤ 256 ∧ q = (bi b, nI i, u) ∧ LGI B M n6 (u 33) ∧ (∀ q, q ≠ 33 → u q = sS q) ∧ NG n6 (u 33) ≤ NG n6 (sS 33) ∧ (b = true → NG n6 (u 33) < NG n6 (sS 33)) ∧ (b = false → ∀ s, s < i → okS B M s → u 33 s < 0 → stk B M (u 33) s)) (fun q => 256 - q.2.1.toNatClampNeg) ?_ _ ?_
  rotate_left
  · refine ⟨false, 0, sS, ?_, ?_, ?_, ?_, ?_, ?_, ?_⟩
    · exact Nat.zero_le _
    · rfl
    · exact hL
    · intro q hq
      rfl
    · exact Nat.le_refl _
    · intro e
      exact absurd e (by decide)
    · intro e s hs
      exact absurd hs (Nat.not_lt_zero s)
  rintro _ R ⟨b, i, u, hi, rfl, hu, hF, hle, hb1, hb0⟩ hR
  unfold F_X10_longest_57
  dsimp only
  constructor
  · intro c
    have := le3 (y := i) (b := 256) (by omega) (by omega) c
    cases b with
    | true => exact h1 u hu hF (hb1 rfl)
    | false => exact h0 u hu hF (fun s hs hf => hb0 rfl s (by have := hs.1; omega) hs hf)
  · intro c
    have hi2 := nle3 (y := i) (b := 256) (by omega) (by omega) c
    have i256 : vp_in (nI i) 256 := vp_in_nI hi2 (by decide)
    have hcl : (nI i).toNatClampNeg = i := nI_clamp (by omega)
    have hM' := fr33 hF hM
    have h9' : u 9 0 = nI M := by rw [hF 9 (by decide)]; exact h9
    have next : ∀ (b' : Bool) (u' : St), LGI B M n6 (u' 33) → (∀ q, q ≠ 33 → u' q = sS q) → NG n6 (u' 33) ≤ NG n6 (sS 33) → (b' = true → NG n6 (u' 33) < NG n6 (sS 33)) → (b' = false → ∀ s, s < i + 1 → okS B M s → u' 33 s < 0 → stk B M (u' 33) s) → R (bi b', nI i + 1, u') := by
      intro b' u' e1 e2 e5 e3 e4
      rw [nI_1]
      refine hR _ ⟨b', i + 1, u', by omega, rfl, e1, e2, e5, e3, e4⟩ ?_
      dsimp only; rw [nI_clamp (by omega), nI_clamp (by omega)]; omega
    have pass : (okS B M i → u 33 i < 0 → stk B M (u 33) i) → R (bi b, nI i + 1, u) := by
      intro hz
      refine next b u hu hF hle hb1 (fun e s hs hok hf => ?_)
      by_cases e2 : s = i
      · subst e2; exact hz hok hf
      · exact hb0 e s (by omega) hok hf
    rw [hcl]
    refine ⟨i256, fun c2 => ?_, fun c2 => sp_isState hO hM' h9' hM3 hi2 ?_⟩
    · rintro _ rfl
      refine pass (fun _ hf => ?_)
      rw [ilt] at hf; rw [ile] at c2; omega
    · rw [bi_0]
      refine ⟨fun c3 => ?_, fun c3 => ?_⟩
      · rintro _ rfl
        refine pass (fun hok _ => ?_)
        have := (okm_iff hi2).mpr hok
        rw [c3] at this; cases this
      · have hneg : u 33 i < 0 ∧ u 33 i = -1 := by
          rcases hu.cs hi2 with f | ⟨v, _, _, f, _⟩
          · exact f
          · exact absurd f c2
        refine sp_long90 hO hM' h9' hM3 h6 hu hi2 (fun hst => ?_) (fun v hv hvb => ?_)
        · unfold J_X10_longest_173
          refine ⟨i256, ?_⟩
          rintro _ rfl
          have e33 : (ua u 33 (nI i) (-1)) 33 = u 33 := by
            rw [ua_s, hcl]
            funext t
            by_cases e : t = i
            · subst e; rw [pk_us]; exact hneg.2.symm
            · rw [pk_un e]
          have hF' : ∀ q, q ≠ 33 → (ua u 33 (nI i) (-1)) q = sS q := fun q hq => by rw [ua_n hq]; exact hF q hq
          have fin : R (bi b, nI i + 1, ua u 33 (nI i) (-1)) := by
            refine next b _ (by rw [e33]; exact hu) hF' (by rw [e33]; exact hle) (by rw [e33]; exact hb1) (fun e s hs hok hf => ?_)
            rw [e33] at hf ⊢
            by_cases e2 : s = i
            · subst e2; exact hst
            · exact hb0 e s (by omega) hok hf
          rw [bi_0]
          refine ⟨fun z => ⟨fun _ => ?_, fun z2 => absurd (by decide) z2⟩, fun z => ?_⟩
          · rintro _ rfl
            rw [z] at fin; exact fin
          · rintro _ rfl
            rw [bt_of z] at fin; exact fin
        · unfold J_X10_longest_173
          refine ⟨i256, ?_⟩
          rintro _ rfl
          have e33 : (ua u 33 (nI i) (nI v)) 33 = upd (u 33) i (nI v) := by rw [ua_s, hcl]
          have hF' : ∀ q, q ≠ 33 → (ua u 33 (nI i) (nI v)) q = sS q := fun q hq => by rw [ua_n hq]; exact hF q hq
          have hng : NG n6 (upd (u 33) i (nI v)) + 1 = NG n6 (u 33) := by
            unfold NG
            refine cb_flip (s := i) (decide_eq_true hneg.1) (decide_eq_false ?_) (fun t ht => ?_) n6 (by omega)
            · rw [pk_us]; exact nI_pos (by omega)
            · rw [pk_un ht]
          have hL' : LGI B M n6 (upd (u 33) i (nI v)) := by
            intro s hs
            by_cases e : s = i
            · subst e
              rw [pk_us]
              exact Or.inr ⟨v, rfl, by omega, hv⟩
            · rw [pk_un e]
              rcases hu s hs with q | ⟨w, q1, q2, q3⟩
              · exact Or.inl q
              · exact Or.inr ⟨w, q1, by omega, q3⟩
          have hlt : NG n6 (upd (u 33) i (nI v)) < NG n6 (sS 33) := by omega
          have fin : R (1, nI i + 1, ua u 33 (nI i) (nI v)) := next true _ (by rw [e33]; exact hL') hF' (by rw [e33]; omega) (fun _ => by rw [e33]; exact hlt) (fun e => by cases e)
          refine ⟨fun z => ⟨fun z2 => absurd z2 (nI_pos (by omega)), fun _ => ?_⟩, fun z => ?_⟩
          · rintro _ rfl
            exact fin
          · rintro _ rfl
            exact fin
end LONGM
