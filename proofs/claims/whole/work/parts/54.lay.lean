/-- the stamps of earlier searches -/
def STm (sS : St) (t : Nat) : Prop := sS 26 0 = nI t ∧ ∀ c, c < 314928 → ∃ s, s ≤ t ∧ sS 27 c = nI s
theorem MG.st {sS : St} {L : List Nd} {t : Nat} (h : MG sS L t) : STm sS t := by
  refine ⟨h.2.2.1, fun c hc => ?_⟩
  by_cases hx : ∃ x ∈ L, cd x = c
  · obtain ⟨x, hx, e⟩ := hx
    obtain ⟨i, hi⟩ := List.getElem?_of_mem hx
    exact ⟨t, Nat.le_refl _, by rw [← e]; exact (h.2.2.2.1 i x hi).1⟩
  · obtain ⟨s, hs, es⟩ := h.2.2.2.2 c hc (fun x hxm e => hx ⟨x, hxm, e⟩)
    exact ⟨s, by omega, es⟩
theorem bi_not {b : Bool} : bi (!b) = 0 ↔ b = true := by cases b <;> decide
section LAY
variable {B : BK} {sS : St} {sL : Int64} {t out : Nat}
theorem sp_lay54 (hO : OKb B) (hM : MB sS B) (ht : t < 2 ^ 31) (ho : out < 256) (h0 : MG sS [] t) {E : Int32 × St → Prop} (h : ∀ s', MG s' (iN B out (bN B)).1 t → FR sS s' → E (bi (!(iN B out (bN B)).2), s')) : Lp (F_X10_layGraphs_54 sL (nI out) E) ((1 : Int32), (0 : Int32), sS) := by
  have hN := hO.1
  refine lp_ind (fun q => ∃ c s, c ≤ bN B ∧ q = (bi (!(iN B out c).2), nI c, s) ∧ MG s (iN B out c).1 t ∧ FR sS s) (fun q => bN B - q.2.1.toNatClampNeg) ?_ _ ⟨0, sS, by omega, rfl, h0, FR.rf⟩
  rintro _ R ⟨c, s, hc, rfl, hG, hF⟩ hR
  unfold F_X10_layGraphs_54
  dsimp only
  have hM' := hF.MB hM
  rw [hM'.1, bi_not]
  constructor
  · intro c1
    have := le3 (y := c) (b := bN B) (by omega) (by omega) c1
    have : c = bN B := by omega
    subst this
    exact h s hG hF
  · intro c1
    have hcN := nle3 (y := c) (b := bN B) (by omega) (by omega) c1
    refine ⟨fun c2 => ?_, fun c2 => sp_has (by omega) (by omega) ?_⟩
    · have e := iN_stop c2 (bN B - c)
      rw [show c + (bN B - c) = bN B by omega] at e
      rw [e] at h
      exact h s hG hF
    · have hb : (iN B out c).2 = false := by cases hq : (iN B out c).2; rfl; exact absurd hq c2
      have hS := iN_SI hO out c hc
      obtain ⟨f4, t4, gw, -⟩ := hO.2.2 c hcN
      obtain ⟨mf, mt, ma⟩ := hM'.2.2 c hcN
      have i8 : vp_in (nI c) 8 := vp_in_nI (by omega) (by decide)
      have eS : iN B out c = ((iN B out c).1, false) := by rw [← hb]
      rw [nI_clamp (n := c) (by omega), mf, mt, bi_0]
      refine ⟨fun c3 => ⟨i8, i8, sp_numberOf (by omega) gw ma ?_⟩, fun c3 => ?_⟩
      · refine sp_note hG (by rw [← eS]; exact hS) ht ⟨f4, t4, gw⟩ (fun s' hG' hF' => ?_)
        have e9 : iN B out (c + 1) = addN ((iN B out c).1, false) (bf B c, bt B c, ba B c) := by
          simp only [iN]; rw [if_neg (of_decide_eq_false c3), ← eS]
        rw [← e9] at hG' ⊢
        rw [bi_not]
        refine ⟨fun c4 => ?_, fun c4 => ?_⟩
        · rintro _ rfl
          rw [nI_1]
          refine hR _ ⟨c + 1, s', by omega, by rw [c4]; rfl, hG', hF.tr hF'⟩ ?_
          dsimp only; rw [nI_clamp (by omega), nI_clamp (by omega)]; omega
        · rintro _ rfl
          have c5 : (iN B out (c + 1)).2 = false := by cases hq : (iN B out (c + 1)).2; rfl; exact absurd hq c4
          rw [nI_1]
          refine hR _ ⟨c + 1, s', by omega, by rw [c5]; rfl, hG', hF.tr hF'⟩ ?_
          dsimp only; rw [nI_clamp (by omega), nI_clamp (by omega)]; omega
      · rintro _ rfl
        have e9 : iN B out (c + 1) = iN B out c := by
          simp only [iN]; rw [if_pos (of_decide_eq_true (bt_of c3))]
        rw [nI_1]
        refine hR _ ⟨c + 1, s, by omega, by rw [e9, hb]; rfl, by rw [e9]; exact hG, hF⟩ ?_
        dsimp only; rw [nI_clamp (by omega), nI_clamp (by omega)]; omega
set_option maxHeartbeats 4000000 in
theorem sp_lay112 (hO : OKb B) (hM : MB sS B) (hp : PW sS) (ht : t < 2 ^ 31) (ho : out < 256) (h0 : MG sS (iN B out (bN B)).1 t) {K : Int32 → St → Prop} (h : ∀ s', MG s' (BF B out).1 t → FR sS s' → K (bi (!(BF B out).2)) s') : Lp (F_X10_layGraphs_112 sL (nI out) K) (bi (!(iN B out (bN B)).2), (0 : Int32), sS) := by
  have hN := hO.1
  refine lp_ind (fun q => ∃ k s, k ≤ (gN B out k).1.length ∧ q = (bi (!(gN B out k).2), nI k, s) ∧ MG s (gN B out k).1 t ∧ FR sS s) (fun q => 1000 - q.2.1.toNatClampNeg) ?_ _ ⟨0, sS, by omega, rfl, h0, FR.rf⟩
  rintro _ R ⟨k, s, hk, rfl, hG, hF⟩ hR
  unfold F_X10_layGraphs_112
  dsimp only
  have hM' := hF.MB hM
  have hp' := hF.PW hp
  have hS := gN_SI hO out k
  have hl : (gN B out k).1.length ≤ 1000 := hS.1
  rw [hG.1, bi_not]
  constructor
  · intro c1
    have := le3 (y := k) (b := (gN B out k).1.length) (by omega) (by omega) c1
    have e := gN_BF (B := B) (out := out) (k := k) (by omega) (Or.inl this)
    rw [e] at hG ⊢
    exact ⟨bi_zb _, h s hG hF⟩
  · intro c1
    have hkl := nle3 (y := k) (b := (gN B out k).1.length) (by omega) (by omega) c1
    refine ⟨fun c2 => ?_, fun c2 => ?_⟩
    · have e := gN_BF (B := B) (out := out) (k := k) (by omega) (Or.inr c2)
      rw [e] at hG ⊢
      exact ⟨bi_zb _, h s hG hF⟩
    · have hb : (gN B out k).2 = false := by cases hq : (gN B out k).2; rfl; exact absurd hq c2
      have ex := List.getElem?_eq_getElem hkl
      obtain ⟨x, hx⟩ : ∃ x, (gN B out k).1[k]? = some x := ⟨_, ex⟩
      have hNV := hS.2.2 x (List.mem_of_getElem? hx)
      have e9 : gN B out (k + 1) = eN B out (gN B out k) x (bN B) := by
        simp only [gN]; rw [hx]; simp only [sN]; rw [if_neg (by rw [hb]; decide)]
      have done : ∀ (c : Nat) (s' : St), c ≤ bN B → (c = bN B ∨ (eN B out (gN B out k) x c).2 = true) → MG s' (eN B out (gN B out k) x c).1 t → FR sS s' → R (bi (!(eN B out (gN B out k) x c).2), nI k + 1, s') := by
        intro c s' hc hor hG' hF'
        have e10 : eN B out (gN B out k) x c = gN B out (k + 1) := by
          rcases hor with e | e
          · rw [e9, e]
          · have e11 := eN_stop e (bN B - c)
            rw [show c + (bN B - c) = bN B by omega] at e11
            rw [e9, e11]
        rw [e10] at hG' ⊢
        rw [nI_1]
        have hpre : k + 1 ≤ (gN B out (k + 1)).1.length := by
          have : ∀ c, c ≤ bN B → (gN B out k).1.length ≤ (eN B out (gN B out k) x c).1.length := by
            intro c
            induction c with
            | zero => intro _; exact Nat.le_refl _
            | succ c ih =>
              intro hc
              simp only [eN]
              split
              · exact ih (by omega)
              · obtain ⟨l, el⟩ := addN_pre (S := eN B out (gN B out k) x c) (x := (x.1, bt B c, jw x.2.2 (ba B c)))
                rw [el]
                have := ih (by omega)
                simp; omega
          have := this (bN B) (Nat.le_refl _)
          rw [← e9] at this
          omega
        refine hR _ ⟨k + 1, s', hpre, rfl, hG', hF'⟩ ?_
        dsimp only; rw [nI_clamp (by omega), nI_clamp (by omega)]; omega
      have hstart : bi (!(gN B out k).2) = bi (!(eN B out (gN B out k) x 0).2) := rfl
      rw [hstart]
      refine lp_ind (fun q => ∃ c s', c ≤ bN B ∧ q = (bi (!(eN B out (gN B out k) x c).2), nI c, s') ∧ MG s' (eN B out (gN B out k) x c).1 t ∧ FR sS s' ∧ s' 23 k = nI x.1 ∧ s' 24 k = nI x.2.1 ∧ s' 25 k = nI (gn x.2.2)) (fun q => bN B - q.2.1.toNatClampNeg) ?_ _ ⟨0, s, by omega, rfl, hG, hF, hG.2.1 k x hx⟩
      rintro _ R2 ⟨c, s', hc, rfl, hG', hF', y1, y2, y3⟩ hR2
      unfold F_X10_layGraphs_127
      dsimp only
      have hM2 := hF'.MB hM
      have hp2 := hF'.PW hp
      rw [hM2.1, bi_not]
      constructor
      · intro c3
        have := le3 (y := c) (b := bN B) (by omega) (by omega) c3
        rintro _ rfl
        exact done c s' hc (Or.inl (by omega)) hG' hF'
      · intro c3
        have hcN := nle3 (y := c) (b := bN B) (by omega) (by omega) c3
        refine ⟨fun c4 => ?_, fun c4 => sp_has (by omega) (by omega) ?_⟩
        · rintro _ rfl
          exact done c s' hc (Or.inr c4) hG' hF'
        · have hb2 : (eN B out (gN B out k) x c).2 = false := by cases hq : (eN B out (gN B out k) x c).2; rfl; exact absurd hq c4
          have hS2 := eN_SI hO (out := out) hS hNV c hc
          obtain ⟨f4, t4, gw, -⟩ := hO.2.2 c hcN
          obtain ⟨mf, mt, ma⟩ := hM2.2.2 c hcN
          have i8 : vp_in (nI c) 8 := vp_in_nI (by omega) (by decide)
          have ik : vp_in (nI k) 1000 := vp_in_nI (by omega) (by decide)
          have eS : eN B out (gN B out k) x c = ((eN B out (gN B out k) x c).1, false) := by rw [← hb2]
          rw [nI_clamp (n := c) (by omega), mf, mt, bi_0, nI_clamp (n := k) (by omega), y1, y2, y3]
          have same : (out / 2 ^ c % 2 = 1 ∨ bf B c ≠ x.2.1) → R2 (bi (!(eN B out (gN B out k) x c).2), nI c + 1, s') := by
            intro hsk
            have e12 : eN B out (gN B out k) x (c + 1) = eN B out (gN B out k) x c := by simp only [eN]; rw [if_pos hsk]
            rw [nI_1]
            refine hR2 _ ⟨c + 1, s', by omega, by rw [e12], by rw [e12]; exact hG', hF', y1, y2, y3⟩ ?_
            dsimp only; rw [nI_clamp (by omega), nI_clamp (by omega)]; omega
          refine ⟨fun c5 => ⟨i8, ik, fun c6 => ⟨ik, i8, ik, sp_numberOf (by omega) gw ma (sp_put2 hp2 hNV.2.2 gw ?_)⟩, fun c6 => ?_⟩, fun c5 => ?_⟩
          · have hto : bf B c = x.2.1 := nI_eq0 (by omega) (by have := hNV.2.1; omega) c6
            have hSI2 : SI ((eN B out (gN B out k) x c).1, false) := by rw [← eS]; exact hS2
            have hnv : NV (x.1, bt B c, jw x.2.2 (ba B c)) := ⟨hNV.1, t4, jw_GW _ _⟩
            refine sp_note (a := x.1) (b := bt B c) (w := jw x.2.2 (ba B c)) hG' hSI2 ht hnv (fun s2 hG2 hF2 => ?_)
            have e12 : eN B out (gN B out k) x (c + 1) = addN ((eN B out (gN B out k) x c).1, false) (x.1, bt B c, jw x.2.2 (ba B c)) := by
              simp only [eN]
              rw [if_neg (fun z => by rcases z with z | z; exact of_decide_eq_false c5 z; exact z hto), ← eS]
            rw [← e12] at hG2 ⊢
            rintro _ rfl
            rw [nI_1]
            have hx2 : (eN B out (gN B out k) x (c + 1)).1[k]? = some x := by
              have hpre2 : ∀ d, d ≤ bN B → (eN B out (gN B out k) x d).1[k]? = some x := by
                intro d
                induction d with
                | zero => intro _; exact hx
                | succ d ih =>
                  intro hd
                  simp only [eN]
                  split
                  · exact ih (by omega)
                  · obtain ⟨l, el⟩ := addN_pre (S := eN B out (gN B out k) x d) (x := (x.1, bt B d, jw x.2.2 (ba B d)))
                    rw [el]
                    have q := ih (by omega)
                    rw [List.getElem?_append_left (List.getElem?_eq_some_iff.mp q).1]
                    exact q
              exact hpre2 (c + 1) (by omega)
            refine hR2 _ ⟨c + 1, s2, by omega, rfl, hG2, hF'.tr hF2, hG2.2.1 k x hx2⟩ ?_
            dsimp only; rw [nI_clamp (by omega), nI_clamp (by omega)]; omega
          · rintro _ rfl
            refine same (Or.inr (fun e => c6 (by rw [e])))
          · rintro _ rfl
            exact same (Or.inl (of_decide_eq_true (bt_of c5)))
end LAY
