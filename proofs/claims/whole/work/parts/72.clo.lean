/-! ===== the graphs of all ways: closed; those by fewer calls are among them ===== -/
section CLO
variable {B : BK} {out : Nat}
theorem addN_mem {S : SG} {x : Nd} (h : (addN S x).2 = false) : S.2 = false ∧ x ∈ (addN S x).1 := by
  have hS : S.2 = false := by
    cases q : S.2
    · rfl
    · rw [addN_big q, q] at h; cases h
  refine ⟨hS, ?_⟩
  by_cases hm : x ∈ S.1
  · have e : addN S x = S := by unfold addN; rw [if_neg (by rw [hS]; decide), if_pos hm]
    rw [e]; exact hm
  · by_cases hl : S.1.length = 1000
    · have e : addN S x = (S.1, true) := by unfold addN; rw [if_neg (by rw [hS]; decide), if_neg hm, if_pos hl]
      rw [e] at h; cases h
    · have e : addN S x = (S.1 ++ [x], false) := by unfold addN; rw [if_neg (by rw [hS]; decide), if_neg hm, if_neg hl]
      rw [e]; simp
theorem addN_sub {S : SG} {x y : Nd} (h : y ∈ S.1) : y ∈ (addN S x).1 := by
  obtain ⟨l, e⟩ := addN_pre (S := S) (x := x)
  rw [e]; exact List.mem_append_left _ h
theorem iN_all : ∀ m c, c < m → ¬ out / 2 ^ c % 2 = 1 → (iN B out m).2 = false → bs B c ∈ (iN B out m).1 := by
  intro m
  induction m with
  | zero => intro c hc; omega
  | succ m ih =>
    intro c hc ho hf
    simp only [iN] at hf ⊢
    by_cases e : out / 2 ^ m % 2 = 1
    · rw [if_pos e] at hf ⊢
      have : c ≠ m := fun q => ho (q ▸ e)
      exact ih c (by omega) ho hf
    · rw [if_neg e] at hf ⊢
      obtain ⟨h1, h2⟩ := addN_mem hf
      by_cases q : c = m
      · subst q; exact h2
      · exact addN_sub (ih c (by omega) ho h1)
theorem eN_all {S : SG} {x : Nd} : ∀ m c, c < m → ¬ out / 2 ^ c % 2 = 1 → bf B c = x.2.1 → (eN B out S x m).2 = false → st1 B x c ∈ (eN B out S x m).1 := by
  intro m
  induction m with
  | zero => intro c hc; omega
  | succ m ih =>
    intro c hc ho hb hf
    simp only [eN] at hf ⊢
    by_cases e : out / 2 ^ m % 2 = 1 ∨ bf B m ≠ x.2.1
    · rw [if_pos e] at hf ⊢
      have : c ≠ m := fun q => by
        subst q
        rcases e with e | e
        · exact ho e
        · exact e hb
      exact ih c (by omega) ho hb hf
    · rw [if_neg e] at hf ⊢
      obtain ⟨h1, h2⟩ := addN_mem hf
      by_cases q : c = m
      · subst q; exact h2
      · exact addN_sub (ih c (by omega) ho hb h1)
/-- after k graphs were gone on from -/
theorem gN_all : ∀ k, (gN B out k).2 = false → (∀ c, inn B out c → bs B c ∈ (gN B out k).1) ∧ ∀ i y c, i < k → (gN B out k).1[i]? = some y → inn B out c → bf B c = y.2.1 → st1 B y c ∈ (gN B out k).1 := by
  intro k
  induction k with
  | zero => intro hf; exact ⟨fun c hc => iN_all _ c hc.1 hc.2 hf, fun i y c h => absurd h (by omega)⟩
  | succ k ih =>
    intro hf
    cases e : (gN B out k).1[k]? with
    | none =>
      have eg : gN B out (k + 1) = gN B out k := by simp only [gN]; rw [e]; rfl
      rw [eg] at hf ⊢
      obtain ⟨h1, h2⟩ := ih hf
      refine ⟨h1, fun i y c hi hy hc hb => ?_⟩
      by_cases q : i = k
      · subst q; rw [e] at hy; cases hy
      · exact h2 i y c (by omega) hy hc hb
    | some x =>
      cases hb : (gN B out k).2 with
      | true =>
        have eg : gN B out (k + 1) = gN B out k := by simp only [gN]; rw [e]; simp only [sN]; rw [if_pos hb]
        rw [eg, hb] at hf; cases hf
      | false =>
        have eg : gN B out (k + 1) = eN B out (gN B out k) x (bN B) := by simp only [gN]; rw [e]; simp only [sN]; rw [if_neg (by rw [hb]; decide)]
        obtain ⟨h1, h2⟩ := ih hb
        rw [eg] at hf ⊢
        obtain ⟨l, el⟩ := eN_pre (B := B) (out := out) (S := gN B out k) (x := x) (bN B)
        have sub : ∀ z, z ∈ (gN B out k).1 → z ∈ (eN B out (gN B out k) x (bN B)).1 := fun z hz => by rw [el]; exact List.mem_append_left _ hz
        refine ⟨fun c hc => sub _ (h1 c hc), fun i y c hi hy hc hbc => ?_⟩
        have hkl := (List.getElem?_eq_some_iff.mp e).1
        rw [el, List.getElem?_append_left (by omega)] at hy
        by_cases q : i = k
        · subst q
          rw [e] at hy
          cases hy
          exact eN_all _ c hc.1 hc.2 hbc hf
        · exact sub _ (h2 i y c (by omega) hy hc hbc)
/-- a closed set -/
def CLS (B : BK) (out : Nat) (T : List Nd) : Prop := (∀ c, inn B out c → bs B c ∈ T) ∧ ∀ y c, y ∈ T → inn B out c → bf B c = y.2.1 → st1 B y c ∈ T
theorem BF_all (hO : OKb B) (hf : (BF B out).2 = false) : CLS B out (BF B out).1 := by
  obtain ⟨h1, h2⟩ := gN_all (B := B) (out := out) 1000 hf
  refine ⟨h1, fun y c hy hc hb => ?_⟩
  obtain ⟨i, hi⟩ := List.getElem?_of_mem hy
  have hl : (BF B out).1.length ≤ 1000 := (gN_SI hO out 1000).1
  have := (List.getElem?_eq_some_iff.mp hi).1
  exact h2 i y c (by omega) hi hc hb
theorem nd_sub : ∀ (L T : List Nd), L.Nodup → (∀ x ∈ L, x ∈ T) → L.length ≤ T.length := by
  intro L
  induction L with
  | nil => intro T _ _; exact Nat.zero_le _
  | cons x L ih =>
    intro T hn hs
    have hx : x ∈ T := hs x (by simp)
    rw [List.nodup_cons] at hn
    have h1 := ih (T.erase x) hn.2 (fun y hy => by
      have hne : y ≠ x := fun e => hn.1 (e ▸ hy)
      exact (List.mem_erase_of_ne hne).mpr (hs y (by simp [hy])))
    rw [List.length_erase_of_mem hx] at h1
    have : 0 < T.length := List.length_pos_of_mem hx
    simp only [List.length_cons]
    omega
theorem addN_cls {S : SG} {x : Nd} {T : List Nd} (hS : SI S) (hT : T.length ≤ 1000) (h1 : S.2 = false) (h2 : ∀ y ∈ S.1, y ∈ T) (hx : x ∈ T) : (addN S x).2 = false ∧ ∀ y ∈ (addN S x).1, y ∈ T := by
  by_cases hm : x ∈ S.1
  · have e : addN S x = S := by unfold addN; rw [if_neg (by rw [h1]; decide), if_pos hm]
    rw [e]; exact ⟨h1, h2⟩
  · have hsub : ∀ y ∈ S.1 ++ [x], y ∈ T := fun y hy => by
      rcases List.mem_append.mp hy with q | q
      · exact h2 y q
      · rw [List.mem_singleton.mp q]; exact hx
    have hl : ¬ S.1.length = 1000 := by
      intro hl
      have hn : (S.1 ++ [x]).Nodup := by
        rw [List.nodup_append]
        refine ⟨hS.2.1, by simp, fun a ha b hb e => ?_⟩
        rw [List.mem_singleton] at hb
        subst hb
        subst e
        exact hm ha
      have := nd_sub _ T hn hsub
      rw [List.length_append, List.length_singleton] at this
      omega
    have e : addN S x = (S.1 ++ [x], false) := by unfold addN; rw [if_neg (by rw [h1]; decide), if_neg hm, if_neg hl]
    rw [e]
    exact ⟨rfl, hsub⟩
theorem iN_cls (hO : OKb B) {T : List Nd} (hT : T.length ≤ 1000) (hC : CLS B out T) : ∀ m, m ≤ bN B → (iN B out m).2 = false ∧ ∀ y ∈ (iN B out m).1, y ∈ T := by
  intro m
  induction m with
  | zero => intro _; exact ⟨rfl, fun y h => by simp [iN] at h⟩
  | succ m ih =>
    intro hm
    obtain ⟨h1, h2⟩ := ih (by omega)
    simp only [iN]
    by_cases e : out / 2 ^ m % 2 = 1
    · rw [if_pos e]; exact ⟨h1, h2⟩
    · rw [if_neg e]
      exact addN_cls (iN_SI hO out m (by omega)) hT h1 h2 (hC.1 m ⟨by omega, e⟩)
theorem eN_cls (hO : OKb B) {T : List Nd} (hT : T.length ≤ 1000) (hC : CLS B out T) {S : SG} {x : Nd} (hS : SI S) (hxV : NV x) (h1 : S.2 = false) (h2 : ∀ y ∈ S.1, y ∈ T) (hx : x ∈ T) : ∀ m, m ≤ bN B → (eN B out S x m).2 = false ∧ ∀ y ∈ (eN B out S x m).1, y ∈ T := by
  intro m
  induction m with
  | zero => intro _; exact ⟨h1, h2⟩
  | succ m ih =>
    intro hm
    obtain ⟨h3, h4⟩ := ih (by omega)
    simp only [eN]
    by_cases e : out / 2 ^ m % 2 = 1 ∨ bf B m ≠ x.2.1
    · rw [if_pos e]; exact ⟨h3, h4⟩
    · rw [if_neg e]
      have e1 : ¬ out / 2 ^ m % 2 = 1 := fun q => e (Or.inl q)
      have e2 : bf B m = x.2.1 := Classical.byContradiction (fun q => e (Or.inr q))
      exact addN_cls (eN_SI hO hS hxV m (by omega)) hT h3 h4 (hC.2 x m hx ⟨by omega, e1⟩ e2)
theorem gN_cls (hO : OKb B) {T : List Nd} (hT : T.length ≤ 1000) (hC : CLS B out T) : ∀ k, (gN B out k).2 = false ∧ ∀ y ∈ (gN B out k).1, y ∈ T := by
  intro k
  induction k with
  | zero => exact iN_cls hO hT hC _ (Nat.le_refl _)
  | succ k ih =>
    obtain ⟨h1, h2⟩ := ih
    cases e : (gN B out k).1[k]? with
    | none =>
      have eg : gN B out (k + 1) = gN B out k := by simp only [gN]; rw [e]; rfl
      rw [eg]; exact ⟨h1, h2⟩
    | some x =>
      have eg : gN B out (k + 1) = eN B out (gN B out k) x (bN B) := by simp only [gN]; rw [e]; simp only [sN]; rw [if_neg (by rw [h1]; decide)]
      rw [eg]
      have hS := gN_SI hO out k
      have hm := List.mem_of_getElem? e
      exact eN_cls hO hT hC hS (hS.2.2 x hm) h1 h2 (h2 x hm) _ (Nat.le_refl _)
theorem CLS.less {T : List Nd} (h : CLS B 0 T) : CLS B out T := by
  have e : ∀ c, inn B out c → inn B 0 c := fun c hc => ⟨hc.1, by rw [Nat.zero_div]; decide⟩
  exact ⟨fun c hc => h.1 c (e c hc), fun y c hy hc hb => h.2 y c hy (e c hc) hb⟩
theorem BF_sub (hO : OKb B) (hf : (BF B 0).2 = false) (out : Nat) : (BF B out).2 = false ∧ ∀ y ∈ (BF B out).1, y ∈ (BF B 0).1 := gN_cls hO (BF_SI hO 0).1 (BF_all hO hf).less 1000
/-- graphs of ways by calls of a set -/
def WG (B : BK) (S : Nat) : Nat → Nd → Prop
  | 0, x => ∃ c, c < bN B ∧ S / 2 ^ c % 2 = 1 ∧ x = bs B c
  | n + 1, x => ∃ y c, WG B S n y ∧ c < bN B ∧ S / 2 ^ c % 2 = 1 ∧ bf B c = y.2.1 ∧ x = st1 B y c
theorem WG_in {S : Nat} {T : List Nd} (hT : CLS B out T) (hd : ∀ c, c < bN B → S / 2 ^ c % 2 = 1 → ¬ out / 2 ^ c % 2 = 1) : ∀ n x, WG B S n x → x ∈ T := by
  intro n
  induction n with
  | zero =>
    rintro x ⟨c, h1, h2, rfl⟩
    exact hT.1 c ⟨h1, hd c h1 h2⟩
  | succ n ih =>
    rintro x ⟨y, c, h0, h1, h2, h3, rfl⟩
    exact hT.2 y c (ih y h0) ⟨h1, hd c h1 h2⟩ h3
/-- none is BAD -/
def GD (B : BK) (out : Nat) : Bool := nbm none (BF B out).1 (BF B out).1.length
theorem nbm_all {L : List Nd} : nbm none L L.length = true ↔ ∀ x ∈ L, badb x = false := by
  rw [nbm_iff]
  constructor
  · intro h x hx
    obtain ⟨i, hi⟩ := List.getElem?_of_mem hx
    have := h i x (List.getElem?_eq_some_iff.mp hi).1 hi
    simp only [sel, Bool.true_and] at this
    exact this
  · intro h i x _ hx
    simp only [sel, Bool.true_and]
    exact h x (List.mem_of_getElem? hx)
theorem GD_iff : GD B out = true ↔ ∀ x ∈ (BF B out).1, badb x = false := nbm_all
end CLO
