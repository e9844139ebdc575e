/-- the class's search rows -/
def CG (sK : St) (S : SG) : Prop := sK 7 0 = nI S.1.length ∧ sK 8 0 = bi S.2 ∧ (∀ i x, S.1[i]? = some x → sK 0 i = nI (key x)) ∧ SLT (sK 3) S.1
def BG (S : SG) : Prop := S.2 = true → S.1.length = 1000
theorem addN_BG {S : SG} {x : Nd} (h : BG S) : BG (addN S x) := by
  unfold addN
  split
  · exact h
  · split
    · exact h
    · split
      · rename_i a b c; exact fun _ => c
      · intro e; cases e
theorem iN_BG (B : BK) (out : Nat) : ∀ c, BG (iN B out c) := by
  intro c
  induction c with
  | zero => intro e; cases e
  | succ c ih => simp only [iN]; split; exact ih; exact addN_BG ih
theorem eN_BG {B : BK} {out : Nat} {S : SG} {x : Nd} (h : BG S) : ∀ c, BG (eN B out S x c) := by
  intro c
  induction c with
  | zero => exact h
  | succ c ih => simp only [eN]; split; exact ih; exact addN_BG ih
theorem gN_BG (B : BK) (out : Nat) : ∀ k, BG (gN B out k) := by
  intro k
  induction k with
  | zero => exact iN_BG B out _
  | succ k ih =>
    simp only [gN]
    cases e : (gN B out k).1[k]? with
    | none => exact ih
    | some x => simp only [sN]; split; exact ih; exact eN_BG ih _
/-- how a graph came in: what the rows of the tree hold behind it -/
def GRW (sK s' : St) (S : SG) (x : Nd) (p c : Int32) : Prop := (x ∈ S.1 ∨ S.1.length = 1000 → s' 1 = sK 1 ∧ s' 2 = sK 2) ∧ (x ∉ S.1 → S.1.length ≠ 1000 → s' 1 = upd (sK 1) S.1.length p ∧ s' 2 = upd (sK 2) S.1.length c)
theorem sp_add {sK : St} {S : SG} (hC : CG sK S) (hS : SI S) (hB : BG S) {x : Nd} (hx : NV x) {p c : Int32} {K : St → Prop} (h : ∀ s', CG s' (addN S x) → (∀ q, q ≠ 0 → q ≠ 1 → q ≠ 2 → q ≠ 3 → q ≠ 7 → q ≠ 8 → s' q = sK q) → GRW sK s' S x p c → K s') : wp_X2_add sK (nI (key x)) p c K := by
  unfold wp_X2_add
  obtain ⟨L, big⟩ := S
  obtain ⟨c1, c2, c3, c4⟩ := hC
  have hS' : SI (L, false) := hS
  have hl : L.length ≤ 1000 := hS.1
  have hkl := key_lt hx
  by_cases hm : x ∈ L
  · have ea : addN (L, big) x = (L, big) := by
      cases big <;> simp [addN, hm]
    rw [ea] at h
    refine sp_slot_in c4 hS' hx hm ⟨fun e => absurd e (by decide), fun _ => h sK ⟨c1, c2, c3, c4⟩ (fun _ _ _ _ _ _ _ => rfl) ⟨fun _ => ⟨rfl, rfl⟩, fun z => absurd hm z⟩⟩
  · refine sp_slot_out c4 hS' hx hm (fun d hd f1 f2 => ?_)
    have hpl := plc_lt (key x) d
    have c1' : sK 7 0 = nI L.length := c1
    rw [c1', show (1000 : Int32) = nI 1000 from rfl, nI_ltI (by omega) (by decide)]
    refine ⟨fun _ => ⟨fun hlt => ⟨vp_in_nI hpl (by decide), ?_⟩, fun hge => ?_⟩, fun z => absurd (nI_pos' (by omega)) z⟩
    · have hbf : big = false := by
        cases hb : big
        · rfl
        · have := hB hb
          have : L.length = 1000 := this
          omega
      subst hbf
      have ea : addN (L, false) x = (L ++ [x], false) := by
        have hne : ¬ L.length = 1000 := by omega
        simp [addN, hm, hne]
      rw [ea] at h
      rw [nI_1]
      rintro _ rfl
      have iv : vp_in (nI L.length) 1000 := vp_in_nI hlt (by decide)
      rw [ua_n (j := 7) (by decide), c1']
      refine ⟨iv, ?_⟩
      rintro _ rfl
      rw [ua_n (j := 7) (by decide), ua_n (j := 7) (by decide), c1']
      refine ⟨iv, ?_⟩
      rintro _ rfl
      rw [ua_n (j := 7) (by decide), ua_n (j := 7) (by decide), ua_n (j := 7) (by decide), c1']
      refine ⟨iv, ?_⟩
      rintro _ rfl _ rfl
      rw [ua_n (j := 7) (by decide), ua_n (j := 7) (by decide), ua_n (j := 7) (by decide), ua_n (j := 7) (by decide), c1', nI_1]
      have hlc : (nI L.length).toNatClampNeg = L.length := nI_clamp (by omega)
      have hcc : (nI (plc (key x) d)).toNatClampNeg = plc (key x) d := nI_clamp (by omega)
      refine h _ ⟨by rw [us_s]; simp, ?_, fun i y hy => ?_, ?_⟩ (fun q a0 a1 a2 a3 a7 a8 => by rw [us_n a7, ua_n a2, ua_n a1, ua_n a0, ua_n a3]) ⟨fun z => ?_, fun _ _ => ⟨?_, ?_⟩⟩
      · rw [us_n (j := 8) (by decide), ua_n (j := 8) (by decide), ua_n (j := 8) (by decide), ua_n (j := 8) (by decide), ua_n (j := 8) (by decide)]; exact c2
      · rw [us_n (j := 0) (by decide), ua_n (j := 0) (by decide), ua_n (j := 0) (by decide), ua_s, ua_n (j := 0) (by decide), hlc]
        by_cases e : i = L.length
        · subst e
          simp at hy
          subst hy
          rw [pk_us]
        · have hlt2 := (List.getElem?_eq_some_iff.mp hy).1
          simp at hlt2
          rw [List.getElem?_append_left (by omega)] at hy
          rw [pk_un e]
          exact c3 i y hy
      · rw [us_n (j := 3) (by decide), ua_n (j := 3) (by decide), ua_n (j := 3) (by decide), ua_n (j := 3) (by decide), ua_s, hcc]
        exact SLT_add c4 hS' hx hd f1 f2
      · rcases z with z | z
        · exact absurd z hm
        · have : L.length = 1000 := z
          omega
      · rw [us_n (j := 1) (by decide), ua_n (j := 1) (by decide), ua_s, ua_n (j := 1) (by decide), ua_n (j := 1) (by decide), hlc]
      · rw [us_n (j := 2) (by decide), ua_s, ua_n (j := 2) (by decide), ua_n (j := 2) (by decide), ua_n (j := 2) (by decide), hlc]
    · have hL : L.length = 1000 := by omega
      have ea : addN (L, big) x = (L, true) := by
        cases big <;> simp [addN, hm, hL]
      rw [ea] at h
      rintro _ rfl
      refine h _ ⟨by rw [us_n (j := 7) (by decide)]; exact c1, by rw [us_s]; rfl, fun i y hy => by rw [us_n (j := 0) (by decide)]; exact c3 i y hy, by rw [us_n (j := 3) (by decide)]; exact c4⟩ (fun q a0 a1 a2 a3 a7 a8 => us_n a8) ⟨fun _ => ⟨us_n (by decide), us_n (by decide)⟩, fun _ z => absurd hL z⟩
