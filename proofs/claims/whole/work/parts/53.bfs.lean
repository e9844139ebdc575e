/-! ===== the graphs of all ways: one search for both ===== -/
abbrev Nd : Type := Nat × Nat × Nat
def NV (x : Nd) : Prop := x.1 < 4 ∧ x.2.1 < 4 ∧ GW x.2.2
def cd (x : Nd) : Nat := (4 * x.1 + x.2.1) * 19683 + gn x.2.2
theorem cd_lt {x : Nd} (h : NV x) : cd x < 314928 := by
  obtain ⟨h1, h2, h3⟩ := h
  have := gn_lt h3
  unfold cd; omega
theorem cd_inj {x y : Nd} (hx : NV x) (hy : NV y) (h : cd x = cd y) : x = y := by
  obtain ⟨a, b, w⟩ := x
  obtain ⟨a', b', w'⟩ := y
  obtain ⟨h1, h2, h3⟩ := hx
  obtain ⟨g1, g2, g3⟩ := hy
  have e1 := gn_lt h3
  have e2 := gn_lt g3
  simp only [cd] at *
  have e3 : gn w = gn w' := by omega
  have e4 : a = a' := by omega
  have e5 : b = b' := by omega
  rw [e4, e5, gn_inj h3 g3 e3]
abbrev SG : Type := List Nd × Bool
def addN (S : SG) (x : Nd) : SG := if S.2 = true then S else if x ∈ S.1 then S else if S.1.length = 1000 then (S.1, true) else (S.1 ++ [x], false)
def iN (B : BK) (out : Nat) : Nat → SG
  | 0 => ([], false)
  | c + 1 => if out / 2 ^ c % 2 = 1 then iN B out c else addN (iN B out c) (bf B c, bt B c, ba B c)
def eN (B : BK) (out : Nat) (S : SG) (x : Nd) : Nat → SG
  | 0 => S
  | c + 1 => if out / 2 ^ c % 2 = 1 ∨ bf B c ≠ x.2.1 then eN B out S x c else addN (eN B out S x c) (x.1, bt B c, jw x.2.2 (ba B c))
def sN (B : BK) (out : Nat) (S : SG) (o : Option Nd) : SG := match o with
  | some x => if S.2 = true then S else eN B out S x (bN B)
  | none => S
def gN (B : BK) (out : Nat) : Nat → SG
  | 0 => iN B out (bN B)
  | k + 1 => sN B out (gN B out k) (gN B out k).1[k]?
def SI (S : SG) : Prop := S.1.length ≤ 1000 ∧ S.1.Nodup ∧ ∀ x ∈ S.1, NV x
theorem addN_SI {S : SG} {x : Nd} (h : SI S) (hx : NV x) : SI (addN S x) := by
  unfold addN
  split
  · exact h
  · split
    · exact h
    · split
      · exact h
      · rename_i h1 h2 h3
        have := h.1
        refine ⟨by simp; omega, ?_, fun y hy => ?_⟩
        · rw [List.nodup_append]
          refine ⟨h.2.1, by simp, fun a ha b hb e => ?_⟩
          simp at hb
          subst hb
          subst e
          exact h2 ha
        · rcases List.mem_append.mp hy with q | q
          · exact h.2.2 y q
          · simp at q; rw [q]; exact hx
theorem addN_big {S : SG} {x : Nd} (h : S.2 = true) : addN S x = S := by unfold addN; rw [if_pos h]
theorem addN_pre {S : SG} {x : Nd} : ∃ l, (addN S x).1 = S.1 ++ l := by
  unfold addN
  split
  · exact ⟨[], by simp⟩
  · split
    · exact ⟨[], by simp⟩
    · split
      · exact ⟨[], by simp⟩
      · exact ⟨[x], rfl⟩
theorem iN_SI {B : BK} (hO : OKb B) (out : Nat) : ∀ c, c ≤ bN B → SI (iN B out c) := by
  intro c
  induction c with
  | zero => intro _; exact ⟨by simp [iN], by simp [iN], fun x h => by simp [iN] at h⟩
  | succ c ih =>
    intro hc
    simp only [iN]
    split
    · exact ih (by omega)
    · obtain ⟨f4, t4, gw, -⟩ := hO.2.2 c (by omega)
      exact addN_SI (ih (by omega)) ⟨f4, t4, gw⟩
theorem eN_SI {B : BK} (hO : OKb B) {out : Nat} {S : SG} {x : Nd} (h : SI S) (hx : NV x) : ∀ c, c ≤ bN B → SI (eN B out S x c) := by
  intro c
  induction c with
  | zero => intro _; exact h
  | succ c ih =>
    intro hc
    simp only [eN]
    split
    · exact ih (by omega)
    · obtain ⟨f4, t4, gw, -⟩ := hO.2.2 c (by omega)
      exact addN_SI (ih (by omega)) ⟨hx.1, t4, jw_GW _ _⟩
theorem gN_SI {B : BK} (hO : OKb B) (out : Nat) : ∀ k, SI (gN B out k) := by
  intro k
  induction k with
  | zero => exact iN_SI hO out _ (Nat.le_refl _)
  | succ k ih =>
    simp only [gN]
    cases e : (gN B out k).1[k]? with
    | none => exact ih
    | some x =>
      simp only [sN]
      split
      · exact ih
      · exact eN_SI hO ih (ih.2.2 x (List.mem_of_getElem? e)) _ (Nat.le_refl _)
theorem iN_stop {B : BK} {out c : Nat} (h : (iN B out c).2 = true) : ∀ d, iN B out (c + d) = iN B out c := by
  intro d
  induction d with
  | zero => rfl
  | succ d ih =>
    rw [← Nat.add_assoc]
    simp only [iN]
    split
    · exact ih
    · rw [ih]; exact addN_big h
theorem eN_stop {B : BK} {out c : Nat} {S : SG} {x : Nd} (h : (eN B out S x c).2 = true) : ∀ d, eN B out S x (c + d) = eN B out S x c := by
  intro d
  induction d with
  | zero => rfl
  | succ d ih =>
    rw [← Nat.add_assoc]
    simp only [eN]
    split
    · exact ih
    · rw [ih]; exact addN_big h
theorem gN_stop {B : BK} {out k : Nat} (h : (gN B out k).1.length ≤ k ∨ (gN B out k).2 = true) : ∀ d, gN B out (k + d) = gN B out k := by
  intro d
  induction d with
  | zero => rfl
  | succ d ih =>
    rw [← Nat.add_assoc]
    simp only [gN]
    rw [ih]
    rcases h with h | h
    · rw [List.getElem?_eq_none (by omega)]; rfl
    · cases e : (gN B out k).1[k + d]? with
      | none => rfl
      | some x => simp only [sN]; rw [if_pos h]
/-- all graphs, and whether there are too many -/
def BF (B : BK) (out : Nat) : SG := gN B out 1000
theorem gN_BF {B : BK} {out k : Nat} (hk : k ≤ 1000) (h : (gN B out k).1.length ≤ k ∨ (gN B out k).2 = true) : gN B out k = BF B out := by
  have := gN_stop h (1000 - k)
  rw [show k + (1000 - k) = 1000 by omega] at this
  exact this.symm
/-- the model's search rows -/
def MG (sS : St) (L : List Nd) (t : Nat) : Prop := sS 22 0 = nI L.length ∧ (∀ i x, L[i]? = some x → sS 23 i = nI x.1 ∧ sS 24 i = nI x.2.1 ∧ sS 25 i = nI (gn x.2.2)) ∧ sS 26 0 = nI t ∧ (∀ i x, L[i]? = some x → sS 27 (cd x) = nI t ∧ sS 28 (cd x) = nI i) ∧ ∀ c, c < 314928 → (∀ x ∈ L, cd x ≠ c) → ∃ s, s < t ∧ sS 27 c = nI s
/-- all else stays -/
def FR (sS s' : St) : Prop := ∀ q, q ≠ 22 → q ≠ 23 → q ≠ 24 → q ≠ 25 → q ≠ 26 → q ≠ 27 → q ≠ 28 → s' q = sS q
theorem FR.rf {s : St} : FR s s := fun _ _ _ _ _ _ _ _ => rfl
theorem FR.tr {a b c : St} (h1 : FR a b) (h2 : FR b c) : FR a c := fun q a1 a2 a3 a4 a5 a6 a7 => (h2 q a1 a2 a3 a4 a5 a6 a7).trans (h1 q a1 a2 a3 a4 a5 a6 a7)
theorem FR.MB {sS s' : St} {B : BK} (h : FR sS s') (hM : MB sS B) : MB s' B := by
  have e2 := h 2 (by decide) (by decide) (by decide) (by decide) (by decide) (by decide) (by decide)
  have e3 := h 3 (by decide) (by decide) (by decide) (by decide) (by decide) (by decide) (by decide)
  have e4 := h 4 (by decide) (by decide) (by decide) (by decide) (by decide) (by decide) (by decide)
  have e5 := h 5 (by decide) (by decide) (by decide) (by decide) (by decide) (by decide) (by decide)
  have e6 := h 6 (by decide) (by decide) (by decide) (by decide) (by decide) (by decide) (by decide)
  refine ⟨by rw [e3]; exact hM.1, fun a ha => by rw [e2]; exact hM.2.1 a ha, fun c hc => ?_⟩
  obtain ⟨h1, h2, h3⟩ := hM.2.2 c hc
  exact ⟨by rw [e4]; exact h1, by rw [e5]; exact h2, fun k hk => by rw [e6]; exact h3 k hk⟩
theorem FR.PW {sS s' : St} (h : FR sS s') (hp : PW sS) : PW s' := fun k hk => by
  rw [h 11 (by decide) (by decide) (by decide) (by decide) (by decide) (by decide) (by decide)]; exact hp k hk
theorem sp_note {sS : St} {sL : Int64} {L : List Nd} {t : Nat} (hG : MG sS L t) (hS : SI (L, false)) (ht : t < 2 ^ 31) {a b w : Nat} (hx : NV (a, b, w)) {K : Int32 → St → Prop} (h : ∀ s', MG s' (addN (L, false) (a, b, w)).1 t → FR sS s' → K (bi (!(addN (L, false) (a, b, w)).2)) s') : wp_X10_note sS sL (nI a) (nI b) (nI (gn w)) K := by
  unfold wp_X10_note wp_X10_codeOf
  obtain ⟨g1, g2, g3, g4, g5⟩ := hG
  obtain ⟨x1, x2, x3⟩ := id hx
  have hgl := gn_lt x3
  have hcl := cd_lt hx
  have hlen : L.length ≤ 1000 := hS.1
  have e1 : (((4 : Int32) * nI a) + nI b) * (19683 : Int32) + nI (gn w) = nI (cd (a, b, w)) := by
    rw [show (4 : Int32) * nI a = nI (4 * a) by rw [← pk_mul]; rfl, nI_add, show nI (4 * a + b) * (19683 : Int32) = nI ((4 * a + b) * 19683) by rw [← pk_mul]; rfl, nI_add]
    rfl
  have iv : vp_in (nI (cd (a, b, w))) 314928 := vp_in_nI hcl (by decide)
  rw [e1, nI_clamp (n := cd (a, b, w)) (by omega), g3]
  by_cases hm : (a, b, w) ∈ L
  · have ea : addN (L, false) (a, b, w) = (L, false) := by unfold addN; simp [hm]
    rw [ea] at h
    obtain ⟨i, hi⟩ := List.getElem?_of_mem hm
    refine ⟨iv, fun _ => h sS ⟨g1, g2, g3, g4, g5⟩ FR.rf, fun c => absurd (g4 i _ hi).1 c⟩
  · have hne : ∀ y ∈ L, cd y ≠ cd (a, b, w) := fun y hy e => hm (cd_inj (hS.2.2 y hy) hx e ▸ hy)
    obtain ⟨s, hs, es⟩ := g5 _ hcl hne
    refine ⟨iv, fun c => ?_, fun _ => ?_⟩
    · rw [es] at c; exact absurd (nI_eq0 (by omega) ht c) (by omega)
    · rw [g1]
      have e1000 : nI L.length = (1000 : Int32) ↔ L.length = 1000 := nI_eq (b := 1000) (by omega) (by decide)
      rw [e1000]
      refine ⟨fun c => ?_, fun c => ⟨iv, ?_⟩⟩
      · have ea : addN (L, false) (a, b, w) = (L, true) := by unfold addN; simp [hm, c]
        rw [ea] at h
        exact h sS ⟨g1, g2, g3, g4, g5⟩ FR.rf
      · have ea : addN (L, false) (a, b, w) = (L ++ [(a, b, w)], false) := by unfold addN; simp [hm, c]
        rw [ea] at h
        have iv2 : vp_in (nI L.length) 1000 := vp_in_nI (by omega) (by decide)
        rintro _ rfl
        rw [ua_n (j := 22) (by decide), g1]
        refine ⟨iv, ?_⟩
        rintro _ rfl
        rw [ua_n (j := 22) (by decide), ua_n (j := 22) (by decide), g1]
        refine ⟨iv2, ?_⟩
        rintro _ rfl
        rw [ua_n (j := 22) (by decide), ua_n (j := 22) (by decide), ua_n (j := 22) (by decide), g1]
        refine ⟨iv2, ?_⟩
        rintro _ rfl
        rw [ua_n (j := 22) (by decide), ua_n (j := 22) (by decide), ua_n (j := 22) (by decide), ua_n (j := 22) (by decide), g1]
        refine ⟨iv2, ?_⟩
        rintro _ rfl _ rfl
        rw [ua_n (j := 22) (by decide), ua_n (j := 22) (by decide), ua_n (j := 22) (by decide), ua_n (j := 22) (by decide), ua_n (j := 22) (by decide), g1, nI_1]
        have hlc : (nI L.length).toNatClampNeg = L.length := nI_clamp (by omega)
        have hcc : (nI (cd (a, b, w))).toNatClampNeg = cd (a, b, w) := nI_clamp (by omega)
        refine h _ ⟨by rw [us_s]; simp, fun i y hy => ?_, ?_, fun i y hy => ?_, fun c0 hc0 hn => ?_⟩ (fun q a1 a2 a3 a4 a5 a6 a7 => by rw [us_n a1, ua_n a4, ua_n a3, ua_n a2, ua_n a7, ua_n a6])
        · rw [us_n (j := 23) (by decide), ua_n (j := 23) (by decide), ua_n (j := 23) (by decide), ua_s, us_n (j := 24) (by decide), ua_n (j := 24) (by decide), ua_s, us_n (j := 25) (by decide), ua_s, hlc]
          rw [ua_n (j := 23) (by decide), ua_n (j := 23) (by decide), ua_n (j := 24) (by decide), ua_n (j := 24) (by decide), ua_n (j := 24) (by decide), ua_n (j := 25) (by decide), ua_n (j := 25) (by decide), ua_n (j := 25) (by decide), ua_n (j := 25) (by decide)]
          by_cases e : i = L.length
          · subst e
            simp at hy
            subst hy
            rw [pk_us, pk_us, pk_us]
            exact ⟨rfl, rfl, rfl⟩
          · have hlt := (List.getElem?_eq_some_iff.mp hy).1
            simp at hlt
            rw [List.getElem?_append_left (by omega)] at hy
            rw [pk_un e, pk_un e, pk_un e]
            exact g2 i y hy
        · rw [us_n (j := 26) (by decide), ua_n (j := 26) (by decide), ua_n (j := 26) (by decide), ua_n (j := 26) (by decide), ua_n (j := 26) (by decide), ua_n (j := 26) (by decide)]; exact g3
        · rw [us_n (j := 27) (by decide), ua_n (j := 27) (by decide), ua_n (j := 27) (by decide), ua_n (j := 27) (by decide), ua_n (j := 27) (by decide), ua_s, us_n (j := 28) (by decide), ua_n (j := 28) (by decide), ua_n (j := 28) (by decide), ua_n (j := 28) (by decide), ua_s, ua_n (j := 28) (by decide), hcc]
          by_cases e : i = L.length
          · subst e
            simp at hy
            subst hy
            rw [pk_us, pk_us]
            exact ⟨rfl, rfl⟩
          · have hlt := (List.getElem?_eq_some_iff.mp hy).1
            simp at hlt
            rw [List.getElem?_append_left (by omega)] at hy
            have hne2 := hne y (List.mem_of_getElem? hy)
            rw [pk_un hne2, pk_un hne2]
            exact g4 i y hy
        · rw [us_n (j := 27) (by decide), ua_n (j := 27) (by decide), ua_n (j := 27) (by decide), ua_n (j := 27) (by decide), ua_n (j := 27) (by decide), ua_s, hcc]
          have hne3 : c0 ≠ cd (a, b, w) := fun e => hn (a, b, w) (by simp) e.symm
          rw [pk_un hne3]
          exact g5 c0 hc0 (fun y hy => hn y (by simp [hy]))
