/-- the row in order -/
def SRT (f : Nat → Int32) (L : List Nd) : Prop := ∃ M : List Nd, M.Perm L ∧ M.Pairwise (fun x y => key x < key y) ∧ ∀ i x, M[i]? = some x → f i = nI (key x)
def KO (sK : St) (L : List Nd) : Prop := sK 9 0 = 0 ∨ (sK 9 0 = 1 ∧ SRT (sK 4) L)
/-- what the class knows of the graphs -/
def CX (B : BK) (sX sK : St) : Prop := (sX 8 0 = 0 ∨ (sX 8 0 = 1 ∧ CF B 0 sK ∧ KO sK (BF B 0).1)) ∧ JC sK
theorem nbm_iff {o : Option Nat} {L : List Nd} : ∀ m, nbm o L m = true ↔ ∀ i x, i < m → L[i]? = some x → (sel o x && badb x) = false := by
  intro m
  induction m with
  | zero => exact ⟨fun _ i x h => absurd h (by omega), fun _ => rfl⟩
  | succ m ih =>
    simp only [nbm, Bool.and_eq_true]
    rw [ih]
    constructor
    · rintro ⟨h1, h2⟩ i x hi hx
      by_cases z : i = m
      · subst z; rw [hx] at h2; simp only [nb1] at h2; cases hq : (sel o x && badb x); rfl; rw [hq] at h2; cases h2
      · exact h1 i x (by omega) hx
    · intro h
      refine ⟨fun i x hi hx => h i x (by omega) hx, ?_⟩
      cases e : L[m]? with
      | none => rfl
      | some x => have := h m x (by omega) e; simp only [nb1]; rw [this]; rfl
theorem SI.fl {S : SG} (h : SI S) : SI (S.1, false) := h
section LARGE
variable {B : BK} {sX sT sB sD sR sK sM sJ sV : St} {sW : Int64} {sS : St} {sL : Int64} {t : Nat}
theorem sp_isLarge (hO : OKb B) (hB : CB sB B) (hX : CX B sX sK) {K : Int32 → (St × St) → Prop} (h : ∀ sX' sK', CX B sX' sK' → sX' 8 0 = 1 → CF B 0 sK' → KO sK' (BF B 0).1 → K (bi (BF B 0).2) (sX', sK')) : wp_X9_isLarge sX sT sB sD sR sK sM sJ sV sW K := by
  unfold wp_X9_isLarge
  obtain ⟨hX, hJ⟩ := hX
  constructor
  · intro c
    refine sp_grow (out := 0) (stop := false) hO hB (by decide) hJ (fun s hs => ?_)
    obtain ⟨a1, a2, a3⟩ := hs.cf
    rintro _ rfl
    rw [a1.1.2.1]
    refine ⟨bi_zb _, h _ _ ⟨Or.inr ⟨by rw [us_s], a1, Or.inl a3⟩, a2⟩ (by rw [us_s]) a1 (Or.inl a3)⟩
  · intro c
    rcases hX with z | ⟨z1, z2, z3⟩
    · exact absurd z c
    · rw [z2.1.2.1]
      exact ⟨bi_zb _, h sX sK ⟨Or.inr ⟨z1, z2, z3⟩, hJ⟩ z1 z2 z3⟩
theorem BF_SI (hO : OKb B) (out : Nat) : SI (BF B out) := gN_SI hO out 1000
theorem op_graphs (hO : OKb B) (hB : CB sB B) (hM : MB sS B) (hp : PW sS) (hst : STm sS t) (ht : t < 2000000000) (hX : CX B sX sK) {K : Int32 → (St × St) → Int32 → St → Prop} (h : ∀ a sX' sK' sS', CX B sX' sK' → FR sS sS' → STm sS' (t + 1) → K a (sX', sK') a sS') : wp_X9_graphs sX sT sB sD sR sK sM sJ sV sW (fun a u => wp_X10_graphs sS sL (fun a' u' => K a u a' u')) := by
  unfold wp_X9_graphs wp_X10_graphs
  refine sp_isLarge hO hB hX (fun sX' sK' x1 x2 x3 x4 => ?_)
  rw [bi_0]
  dsimp only
  refine ⟨fun c => sp_layGraphs (out := 0) hO hM hp hst ht (by decide) (fun s' g1 g2 => ⟨fun c2 => ?_, fun c2 => ?_⟩), fun c => sp_layGraphs (out := 0) hO hM hp hst ht (by decide) (fun s' g1 g2 => ⟨fun c2 => ?_, fun c2 => ?_⟩)⟩
  · rw [c] at c2; exact absurd c2 (by decide)
  · rw [g1.1, x3.1.1]; exact h _ _ _ _ x1 g2 g1.st
  · exact h _ _ _ _ x1 g2 g1.st
  · rw [bt_of c] at c2; exact absurd rfl c2
theorem bad_b {b : Nat} {L : List Nd} (hN : ∀ x ∈ L, NV x) (hb : b < 16) (h : ∀ a, a < 4 → (b / 2 ^ a % 2 = 1 ↔ ∃ i x, i < L.length ∧ L[i]? = some x ∧ badb x = true ∧ x.1 = a)) : b = 0 ↔ nbm none L L.length = true := by
  rw [nbm_iff]
  have key : ∀ b, b < 16 → (b = 0 ↔ ∀ a, a < 4 → ¬ b / 2 ^ a % 2 = 1) := by decide
  rw [key b hb]
  constructor
  · intro hq i x hi hx
    cases e : badb x with
    | false => simp [sel]
    | true =>
      have hx4 := (hN x (List.mem_of_getElem? hx)).1
      exact absurd ((h x.1 hx4).mpr ⟨i, x, hi, hx, e, rfl⟩) (hq x.1 hx4)
  · intro hq a ha hc
    obtain ⟨i, x, q1, q2, q3, q4⟩ := (h a ha).mp hc
    have := hq i x q1 q2
    rw [q3] at this
    simp [sel] at this
theorem bad_a {b a : Nat} {L : List Nd} (ha : a < 4) (h : ∀ a, a < 4 → (b / 2 ^ a % 2 = 1 ↔ ∃ i x, i < L.length ∧ L[i]? = some x ∧ badb x = true ∧ x.1 = a)) : ¬ b / 2 ^ a % 2 = 1 ↔ nbm (some a) L L.length = true := by
  rw [nbm_iff, h a ha]
  constructor
  · intro hq i x hi hx
    cases e : badb x with
    | false => simp
    | true =>
      have : ¬ x.1 = a := fun z => hq ⟨i, x, hi, hx, e, z⟩
      simp [sel, this]
  · rintro hq ⟨i, x, q1, q2, q3, q4⟩
    have := hq i x q1 q2
    rw [q3] at this
    simp [sel, q4] at this
theorem andb_ok : ∀ b, b < 16 → ∀ a, a < 4 → (nI b &&& ((1 : Int32) <<< (nI a &&& 31)) = 0 ↔ ¬ b / 2 ^ a % 2 = 1) := by decide +kernel
theorem op_ends (hO : OKb B) (hB : CB sB B) (hM : MB sS B) (hp : PW sS) (hst : STm sS t) (ht : t < 2000000000) (hX : CX B sX sK) {p : Int32} {K : Int32 → (St × St) → Int32 → St → Prop} (h0 : ∀ a, K a (sX, sK) a sS) (h : ∀ a sX' sK' sS', CX B sX' sK' → FR sS sS' → STm sS' (t + 1) → K a (sX', sK') a sS') : wp_X9_ends sX sT sB sD sR sK sM sJ sV sW p (fun a u => wp_X10_ends sS sL p (fun a' u' => K a u a' u')) := by
  unfold wp_X9_ends
  have hS := BF_SI hO 0
  have z1 : (-1 : Int64).toInt = -1 := by decide
  have z3 : (3 : Int64).toInt = 3 := by decide
  have zp := i2l_toInt p
  have zm : (-1 : Int32).toInt = -1 := by decide
  have run : ∀ o, ocode o p → J_X9_ends_14 sX sT sB sD sR sK sM sJ sV sW p (fun a u => wp_X10_ends sS sL p (fun a' u' => K a u a' u')) := by
    intro o ho
    unfold J_X9_ends_14
    have hin : -1 ≤ p.toInt ∧ p.toInt ≤ 3 := by
      cases o with
      | none => rw [show p = -1 from ho, zm]; omega
      | some a => obtain ⟨h4, rfl⟩ := ho; rw [nI_toInt (by omega)]; omega
    refine sp_isLarge hO hB hX (fun sX' sK' x1 x2 x3 x4 => ?_)
    rw [bi_0]
    dsimp only
    have big : (BF B 0).2 = true → wp_X10_ends sS sL p (fun a' u' => K (-2) (sX', sK') a' u') := by
      intro c
      unfold wp_X10_ends
      refine sp_in (fun _ => ⟨fun e => absurd e (by decide), fun _ => ?_⟩) (fun z => absurd (by omega) z)
      refine sp_layGraphs (out := 0) hO hM hp hst ht (by decide) (fun s' g1 g2 => ⟨fun c2 => h _ _ _ _ x1 g2 g1.st, fun c2 => ?_⟩)
      rw [c] at c2; exact absurd rfl c2
    refine ⟨fun c => ?_, fun c => big (bt_of c)⟩
    have mdl : ∀ v, (v = bi (nbm o (BF B 0).1 (BF B 0).1.length)) → wp_X10_ends sS sL p (fun a' u' => K v (sX', sK') a' u') := by
      intro v hv
      unfold wp_X10_ends
      refine sp_in (fun _ => ⟨fun e => absurd e (by decide), fun _ => ?_⟩) (fun z => absurd (by omega) z)
      refine sp_layGraphs (out := 0) hO hM hp hst ht (by decide) (fun s' g1 g2 => ⟨fun c2 => ?_, fun c2 => ?_⟩)
      · rw [c] at c2; exact absurd c2 (by decide)
      · refine sp_noneBadM (g2.PW hp) g1 hS.fl ho ?_
        rw [bi_0]
        refine ⟨fun c3 => ?_, fun c3 => ?_⟩
        · rw [c3] at hv; subst hv; exact h _ _ _ _ x1 g2 g1.st
        · rw [bt_of c3] at hv; subst hv; exact h _ _ _ _ x1 g2 g1.st
    obtain ⟨-, b, b1, b2, b3⟩ := (x3.2 c).2
    have fin : ∀ t0 : Int32, (t0 = 0 ↔ nbm o (BF B 0).1 (BF B 0).1.length = true) → J_X9_ends_50 sX' sK' t0 (fun a u => wp_X10_ends sS sL p (fun a' u' => K a u a' u')) := by
      intro t0 e
      unfold J_X9_ends_50
      refine ⟨fun c3 => mdl _ (by rw [e.mp c3]; rfl), fun c3 => mdl _ ?_⟩
      cases hq : nbm o (BF B 0).1 (BF B 0).1.length with
      | false => rfl
      | true => exact absurd (e.mpr hq) c3
    rw [b2]
    cases o with
    | none =>
      have ho' : p = -1 := ho
      refine ⟨fun _ => fin _ ?_, fun z => absurd ho' z⟩
      rw [nI_z (by omega)]
      exact bad_b hS.2.2 b1 b3
    | some a =>
      obtain ⟨h4, rfl⟩ := ho
      refine ⟨fun z => absurd z (nI_neg (by omega)), fun _ => fin _ ?_⟩
      rw [andb_ok b b1 a h4]
      exact bad_a h4 b3
  refine ⟨fun c => run none c, fun c => sp_isActC (fun hx => ⟨fun e => absurd e (by decide), fun _ => ?_⟩) (fun hx => ⟨fun _ => ?_, fun e => absurd rfl e⟩)⟩
  · obtain ⟨a, ha, e⟩ := hx
    exact run (some a) ⟨ha, e⟩
  · unfold wp_X10_ends
    refine sp_in (fun z => ?_) (fun _ => ⟨fun _ => h0 _, fun e => absurd rfl e⟩)
    exfalso
    apply hx
    rw [IX_iff (by decide)]
    have : p.toInt ≠ -1 := fun e => c (Int32.toInt_inj.mp (by rw [e, zm]))
    omega
end LARGE
