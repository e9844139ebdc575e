theorem sp_layGraphs {B : BK} {sS : St} {sL : Int64} {t out : Nat} (hO : OKb B) (hM : MB sS B) (hp : PW sS) (hst : STm sS t) (ht : t < 2000000000) (ho : out < 256) {K : Int32 → St → Prop} (h : ∀ s', MG s' (BF B out).1 (t + 1) → FR sS s' → K (bi (!(BF B out).2)) s') : wp_X10_layGraphs sS sL (nI out) K := by
  unfold wp_X10_layGraphs
  rintro _ rfl
  rw [us_n (j := 26) (by decide), hst.1]
  refine ⟨fun c => absurd (nI_eq0 (b := 2000000000) (by omega) (by decide) c) (by omega), fun _ => ?_⟩
  unfold J_X10_layGraphs_40
  rw [us_n (j := 26) (by decide), hst.1, nI_1]
  rintro _ rfl
  have hF : FR sS (us (us sS 22 0) 26 (nI (t + 1))) := fun q a1 a2 a3 a4 a5 a6 a7 => by rw [us_n a5, us_n a1]
  have hG : MG (us (us sS 22 0) 26 (nI (t + 1))) [] (t + 1) := by
    refine ⟨by rw [us_n (by decide), us_s]; rfl, fun i x hx => by simp at hx, by rw [us_s], fun i x hx => by simp at hx, fun c hc _ => ?_⟩
    obtain ⟨s, h1, h2⟩ := hst.2 c hc
    exact ⟨s, by omega, by rw [us_n (by decide), us_n (by decide)]; exact h2⟩
  refine sp_lay54 hO (hF.MB hM) (by omega) ho hG (fun s' hG' hF' => ?_)
  dsimp only
  unfold J_X10_layGraphs_110
  have hF2 := hF.tr hF'
  exact sp_lay112 hO (hF2.MB hM) (hF2.PW hp) (by omega) ho hG' (fun s2 hG2 hF3 => h s2 hG2 (hF2.tr hF3))
/-- ROUND, BAD -/
def rdb (x : Nd) : Bool := decide (x.1 = x.2.1) && decide (jw x.2.2 x.2.2 = x.2.2)
def badb (x : Nd) : Bool := rdb x && !(hlb x.2.2)
section BAD
variable {sS : St} {sL : Int64} {t : Nat} {L : List Nd}
theorem sp_isRoundM (hp : PW sS) (hG : MG sS L t) (hl : L.length ≤ 1000) {k : Nat} {x : Nd} (hk : L[k]? = some x) (hx : NV x) {K : Int32 → Prop} (h : K (bi (rdb x))) : wp_X10_isRound sS sL (nI k) K := by
  unfold wp_X10_isRound
  have hkl := (List.getElem?_eq_some_iff.mp hk).1
  obtain ⟨e1, e2, e3⟩ := hG.2.1 k x hk
  have ik : vp_in (nI k) 1000 := vp_in_nI (by omega) (by decide)
  obtain ⟨x1, x2, x3⟩ := hx
  rw [nI_clamp (n := k) (by omega), e1, e2, e3, nI_eq (by omega) (by omega)]
  unfold rdb at h
  refine ⟨ik, ik, fun c => ⟨ik, ik, sp_put2 hp x3 x3 ⟨ik, fun c2 => ?_, fun c2 => ?_⟩⟩, fun c => ?_⟩
  · have c3 := nI_eq0 (by have := gn_lt (jw_GW x.2.2 x.2.2); omega) (by have := gn_lt x3; omega) c2
    have c4 := gn_inj (jw_GW _ _) x3 c3
    rw [decide_eq_true c, decide_eq_true c4] at h
    exact h
  · have c4 : ¬ jw x.2.2 x.2.2 = x.2.2 := fun e => c2 (by rw [e])
    rw [decide_eq_true c, decide_eq_false c4] at h
    exact h
  · rw [decide_eq_false c] at h
    exact h
theorem sp_isBadM (hp : PW sS) (hG : MG sS L t) (hl : L.length ≤ 1000) {k : Nat} {x : Nd} (hk : L[k]? = some x) (hx : NV x) {K : Int32 → Prop} (h : K (bi (badb x))) : wp_X10_isBad sS sL (nI k) K := by
  unfold wp_X10_isBad
  have hkl := (List.getElem?_eq_some_iff.mp hk).1
  obtain ⟨e1, e2, e3⟩ := hG.2.1 k x hk
  have ik : vp_in (nI k) 1000 := vp_in_nI (by omega) (by decide)
  have hgl := gn_lt hx.2.2
  refine lp_ind (fun q => ∃ m, m ≤ 3 ∧ q = (bi (hlp x.2.2 m), nI m)) (fun q => 3 - q.2.toNatClampNeg) ?_ _ ⟨0, by omega, rfl⟩
  rintro _ R ⟨m, hm, rfl⟩ hR
  unfold F_X10_isBad_4
  dsimp only
  constructor
  · intro c
    have := le3 (y := m) (b := 3) (by omega) (by omega) c
    have : m = 3 := by omega
    subst this
    rw [hlp_3]
    refine sp_isRoundM hp hG hl hk hx ?_
    rw [bi_0, bi_0]
    unfold badb at h
    refine ⟨fun c2 => ?_, fun c2 => ⟨fun c3 => ?_, fun c3 => ?_⟩⟩
    · rw [c2] at h; exact h
    · rw [bt_of c2, c3] at h; exact h
    · rw [bt_of c2, bt_of c3] at h; exact h
  · intro c
    have hm9 := nle3 (y := m) (b := 3) (by omega) (by omega) c
    have hmu : ∀ b : Int32, b = bi (hlp x.2.2 (m + 1)) → R (b, nI m + 1) := by
      intro b eb
      rw [nI_1]
      refine hR _ ⟨m + 1, by omega, by rw [eb]⟩ ?_
      dsimp only; rw [nI_clamp (by omega), nI_clamp (by omega)]; omega
    rw [bi_0, nI_clamp (n := k) (by omega), e3]
    refine ⟨fun c3 => ⟨ik, sp_digit hp (by omega) hm9 hm9 ?_⟩, fun c3 => ?_⟩
    · rw [gn_dig hx.2.2 _ (by omega), show 3 * m + m = 4 * m by omega]
      have hd := dg_lt x.2.2 (4 * m)
      have e2 : nI (dg x.2.2 (4 * m)) = (2 : Int32) ↔ dg x.2.2 (4 * m) = 2 := nI_eq (b := 2) (by omega) (by decide)
      rw [e2]
      refine ⟨fun c4 => ?_, fun c4 => ?_⟩
      · rintro _ rfl
        exact hmu _ (by simp [hlp, c3, c4]; rfl)
      · rintro _ rfl
        exact hmu _ (by simp [hlp, c3, c4]; rfl)
    · rintro _ rfl
      exact hmu _ (by simp only [hlp]; rw [bt_of c3]; rfl)
def sel (o : Option Nat) (x : Nd) : Bool := match o with
  | none => true
  | some a => decide (x.1 = a)
def nb1 (o : Option Nat) (y : Option Nd) : Bool := match y with
  | some x => !(sel o x && badb x)
  | none => true
/-- none of the first m is BAD (of that act) -/
def nbm (o : Option Nat) (L : List Nd) : Nat → Bool
  | 0 => true
  | m + 1 => nbm o L m && nb1 o L[m]?
theorem nbm_stop {o : Option Nat} {m : Nat} (h : nbm o L m = false) : ∀ d, nbm o L (m + d) = false := by
  intro d
  induction d with
  | zero => exact h
  | succ d ih => rw [← Nat.add_assoc]; simp only [nbm]; rw [ih]; rfl
/-- how an act is told: -1 for all -/
def ocode (o : Option Nat) (p : Int32) : Prop := match o with
  | none => p = -1
  | some a => a < 4 ∧ p = nI a
theorem sp_noneBadM (hp : PW sS) (hG : MG sS L t) (hS : SI (L, false)) {o : Option Nat} {p : Int32} (ho : ocode o p) {K : Int32 → Prop} (h : K (bi (nbm o L L.length))) : wp_X10_noneBad sS sL p K := by
  unfold wp_X10_noneBad
  have hl : L.length ≤ 1000 := hS.1
  refine lp_ind (fun q => ∃ m, m ≤ L.length ∧ q = (bi (nbm o L m), nI m)) (fun q => L.length - q.2.toNatClampNeg) ?_ _ ⟨0, by omega, rfl⟩
  rintro _ R ⟨m, hm, rfl⟩ hR
  unfold F_X10_noneBad_4
  dsimp only
  rw [hG.1, bi_0]
  constructor
  · intro c
    have := le3 (y := m) (b := L.length) (by omega) (by omega) c
    have : m = L.length := by omega
    subst this
    exact ⟨bi_zb _, h⟩
  · intro c
    have hml := nle3 (y := m) (b := L.length) (by omega) (by omega) c
    refine ⟨fun c2 => ⟨bi_zb _, ?_⟩, fun c2 => ?_⟩
    · have e := nbm_stop c2 (L.length - m)
      rw [show m + (L.length - m) = L.length by omega] at e
      rw [e] at h
      rw [c2]
      exact h
    · obtain ⟨x, hx⟩ : ∃ x, L[m]? = some x := ⟨_, List.getElem?_eq_getElem hml⟩
      have hNV : NV x := hS.2.2 x (List.mem_of_getElem? hx)
      have im : vp_in (nI m) 1000 := vp_in_nI (by omega) (by decide)
      have hmu : ∀ b : Int32, b = bi (nb1 o L[m]?) → R (b, nI m + 1) := by
        intro b eb
        rw [nI_1]
        refine hR _ ⟨m + 1, by omega, by rw [eb]; simp only [nbm]; rw [bt_of c2]; rfl⟩ ?_
        dsimp only; rw [nI_clamp (by omega), nI_clamp (by omega)]; omega
      have hJ : sel o x = true → J_X10_noneBad_30 sS sL (nI m) R := by
        intro hs
        unfold J_X10_noneBad_30
        refine sp_isBadM hp hG hl hx hNV ?_
        rw [bi_0]
        refine ⟨fun c3 => ?_, fun c3 => ?_⟩
        · rintro _ rfl
          exact hmu _ (by rw [hx]; simp only [nb1]; rw [c3]; simp; rfl)
        · rintro _ rfl
          exact hmu _ (by rw [hx]; simp only [nb1]; rw [hs, bt_of c3]; rfl)
      cases o with
      | none =>
        have ho : p = -1 := ho
        subst ho
        exact ⟨fun _ => hJ rfl, fun z => absurd (by decide) z⟩
      | some a =>
        obtain ⟨h4, rfl⟩ := ho
        refine ⟨fun z => absurd z (nI_pos (by omega)), fun _ => ⟨im, ?_⟩⟩
        obtain ⟨e1, -, -⟩ := hG.2.1 m x hx
        have hx4 := hNV.1
        rw [nI_clamp (n := m) (by omega), e1, nI_eq (by omega) (by omega)]
        refine ⟨fun c3 => hJ (decide_eq_true c3), fun c3 => ?_⟩
        rintro _ rfl
        exact hmu _ (by rw [hx]; simp only [nb1, sel]; rw [decide_eq_false c3]; rfl)
end BAD
