/-- the word of the lowest digits -/
def An (n i : Nat) : Nat := h4 (fun j => if j < i then n / 3 ^ j % 3 else 0)
theorem An_dg (n i : Nat) : ∀ j, j < 9 → dg (An n i) j = if j < i then n / 3 ^ j % 3 else 0 := dg_h4 (fun j _ => by split <;> omega)
theorem An_lt (n i : Nat) : An n i < 262144 := h4_lt (fun j _ => by split <;> omega)
theorem An_9 (n : Nat) : An n 9 = wn n := by simp [An, wn, h4]
theorem or0 : ∀ d, d < 4 → 0 ||| d = d ∧ d ||| 0 = d := by decide
theorem sp_fromNumber {n : Nat} (hn : n < 19683) {K : Int32 → Prop} (h : K (nI (wn n))) : wp_X0_fromNumber (nI n) K := by
  unfold wp_X0_fromNumber
  refine lp_ind (fun q => ∃ i, i ≤ 9 ∧ q = (nI (An n i), nI (n / 3 ^ i), nI i)) (fun q => 9 - q.2.2.toNatClampNeg) ?_ _ ⟨0, by omega, by rw [Nat.pow_zero, Nat.div_one]; rfl⟩
  rintro _ R ⟨i, hi, rfl⟩ hR
  unfold F_X0_fromNumber_6
  dsimp only
  constructor
  · intro c
    have : i = 9 := by
      rcases Nat.lt_or_ge i 9 with q | q
      · exact absurd c (nI_ge (b := 9) q (by decide))
      · omega
    subst this
    rw [An_9]
    exact h
  · intro c
    have hi9 : i < 9 := by
      rcases Nat.lt_or_ge i 9 with q | q
      · exact q
      · exact absurd (nI_le (a := 9) q (by omega)) c
    rintro _ rfl _ rfl _ rfl
    have hb : n / 3 ^ i < 2 ^ 31 := Nat.lt_of_le_of_lt (Nat.div_le_self _ _) (by omega)
    have e1 : nI (n / 3 ^ i) - nI (n / 3 ^ i) / (3 : Int32) * (3 : Int32) = nI (n / 3 ^ i % 3) := pk_rem hb (by decide) (by decide)
    have e2 : nI (n / 3 ^ i) / (3 : Int32) = nI (n / 3 ^ (i + 1)) := by
      rw [show (3 : Int32) = nI 3 from rfl, pk_div hb (by decide) (by decide), Nat.div_div_eq_div_mul, Nat.pow_succ]
    have hd : n / 3 ^ i % 3 < 4 := by omega
    have e3 : nI (n / 3 ^ i % 3) <<< (((2 : Int32) * nI i) &&& 31) = nI (n / 3 ^ i % 3 * 4 ^ i) := by
      rw [show (2 : Int32) * nI i = nI (2 * i) by rw [← pk_mul]; rfl]
      exact (sv_ok i hi9 _ hd).1
    rw [e1, e2, e3, nI_or, nI_1]
    refine hR _ ⟨i + 1, by omega, ?_⟩ ?_
    · have e4 : An n i ||| n / 3 ^ i % 3 * 4 ^ i = An n (i + 1) := by
        refine GW.ext (or_lt18 (An_lt n i) (sv_ok i hi9 _ hd).2.1) (An_lt n _) (fun j hj => ?_)
        rw [dg_or, (sv_ok i hi9 _ hd).2.2 j hj, An_dg n i j hj, An_dg n (i + 1) j hj]
        have h3 : n / 3 ^ j % 3 < 4 := by omega
        rcases Nat.lt_trichotomy j i with q | q | q
        · rw [if_pos q, if_neg (by omega), if_pos (by omega)]; exact (or0 _ h3).2
        · subst q; rw [if_neg (by omega), if_pos rfl, if_pos (by omega)]; exact (or0 _ h3).1
        · rw [if_neg (by omega), if_neg (by omega), if_neg (by omega)]; rfl
      rw [e4]
    · dsimp only
      rw [nI_clamp (by omega), nI_clamp (by omega)]
      omega
/-- a row of arcs by way of a graph -/
def jr (r v : Nat) : Nat := mx3 (cw (dg r 0) (v / 64 ^ 0 % 64)) (cw (dg r 1) (v / 64 ^ 1 % 64)) (cw (dg r 2) (v / 64 ^ 2 % 64))
theorem cw_V {s o : Nat} (hs : s < 3) (ho : V6 o) : V6 (cw s o) := by
  obtain ⟨k, hk, rfl⟩ := ho
  obtain ⟨j, hj, h⟩ := List.any_eq_true.mp (cw_V6 s hs k hk)
  exact ⟨j, List.mem_range.mp hj, of_decide_eq_true h⟩
theorem GW.row6 {v : Nat} (hv : GW v) : ∀ y, y < 3 → V6 (v / 64 ^ y % 64) := by
  have a0 := hv.2 0 (by omega); have a1 := hv.2 1 (by omega); have a2 := hv.2 2 (by omega); have a3 := hv.2 3 (by omega); have a4 := hv.2 4 (by omega)
  have a5 := hv.2 5 (by omega); have a6 := hv.2 6 (by omega); have a7 := hv.2 7 (by omega); have a8 := hv.2 8 (by omega)
  simp only [dg] at a0 a1 a2 a3 a4 a5 a6 a7 a8
  apply all3 <;> (apply V6_of <;> omega)
def accR (r v : Nat) : Nat → Int32
  | 0 => 0
  | y + 1 => accR r v y ||| ct (nI (dg r y)) (nI (v / 64 ^ y % 64))
theorem i32_0or (a : Int32) : 0 ||| a = a := by
  apply Int32.toBitVec_inj.mp
  simp
theorem i32_or0 (a : Int32) : a ||| 0 = a := by
  apply Int32.toBitVec_inj.mp
  simp
theorem fin6_at {a b c : Nat} (ha : V6 a) (hb : V6 b) (hc : V6 c) : fin6 ((nI a ||| nI b) ||| nI c) = nI (mx3 a b c) := by
  obtain ⟨i, hi, rfl⟩ := ha
  obtain ⟨j, hj, rfl⟩ := hb
  obtain ⟨k, hk, rfl⟩ := hc
  exact of_decide_eq_true (List.all_eq_true.mp (List.all_eq_true.mp (List.all_eq_true.mp fin6_ok i (List.mem_range.mpr hi)) j (List.mem_range.mpr hj)) k (List.mem_range.mpr hk))
theorem ct_at {s o : Nat} (hs : s < 3) (ho : V6 o) : ct (nI s) (nI o) = nI (cw s o) := by
  obtain ⟨k, hk, rfl⟩ := ho
  exact ct_ok s hs k hk
theorem accR_3 {r v : Nat} (hr : ∀ y, y < 3 → dg r y < 3) (hv : GW v) : fin6 (accR r v 3) = nI (jr r v) := by
  simp only [accR]
  rw [i32_0or, ct_at (hr 0 (by omega)) (hv.row6 0 (by omega)), ct_at (hr 1 (by omega)) (hv.row6 1 (by omega)), ct_at (hr 2 (by omega)) (hv.row6 2 (by omega))]
  exact fin6_at (cw_V (hr 0 (by omega)) (hv.row6 0 (by omega))) (cw_V (hr 1 (by omega)) (hv.row6 1 (by omega))) (cw_V (hr 2 (by omega)) (hv.row6 2 (by omega)))
theorem nI_eq0 {a b : Nat} (ha : a < 2 ^ 31) (hb : b < 2 ^ 31) (h : nI a = nI b) : a = b := (nI_eq ha hb).mp h
theorem sp_joinRow {r v : Nat} (hr64 : r < 64) (hr : ∀ y, y < 3 → dg r y < 3) (hv : GW v) {K : Int32 → Prop} (h : K (nI (jr r v))) : wp_X0_joinRow (nI r) (nI v) K := by
  unfold wp_X0_joinRow
  refine lp_ind (fun q => ∃ y, y ≤ 3 ∧ q = (accR r v y, nI y)) (fun q => 3 - q.2.toNatClampNeg) ?_ _ ⟨0, by omega, rfl⟩
  rintro _ R ⟨y, hy, rfl⟩ hR
  unfold F_X0_joinRow_4
  dsimp only
  constructor
  · intro c
    have : y = 3 := by
      rcases Nat.lt_or_ge y 3 with q | q
      · exact absurd c (nI_ge (b := 3) q (by decide))
      · omega
    subst this
    have e := accR_3 hr hv
    unfold fin6 at e
    rw [e]
    exact h
  · intro c
    have hy3 : y < 3 := by
      rcases Nat.lt_or_ge y 3 with q | q
      · exact q
      · exact absurd (nI_le (a := 3) q (by omega)) c
    have e1 : (nI r >>> (((2 : Int32) * nI y) &&& 31)) &&& (3 : Int32) = nI (dg r y) := bits2 (by omega) (by omega)
    have e2 : (nI v >>> (((6 : Int32) * nI y) &&& 31)) &&& (63 : Int32) = nI (v / 64 ^ y % 64) := by
      have hv1 := hv.1
      rw [show (6 : Int32) * nI y = nI (6 * y) by rw [← pk_mul]; rfl, shr_nI (by omega) (by omega), and63 (by have := Nat.div_le_self v (2 ^ (6 * y)); omega), Nat.pow_mul]
    rw [e1, e2]
    rintro _ rfl _ rfl
    have hnext : ∀ a : Int32, a = accR r v (y + 1) → R (a, nI y + 1) := by
      intro a ea
      refine hR _ ⟨y + 1, by omega, by rw [ea, nI_1]⟩ ?_
      dsimp only
      rw [nI_1, nI_clamp (by omega), nI_clamp (by omega)]
      omega
    refine ⟨fun c1 => ?_, fun c1 => ⟨fun c2 => ?_, fun c2 => ?_⟩⟩
    · rintro _ rfl _ rfl
      exact hnext _ (by simp only [accR, ct]; rw [if_pos c1])
    · rintro _ rfl _ rfl
      exact hnext _ (by simp only [accR, ct]; rw [if_neg c1, if_pos c2])
    · rintro _ rfl
      exact hnext _ (by simp only [accR, ct]; rw [if_neg c1, if_neg c2, i32_or0])
