theorem le3 {y b : Nat} (hy : y < 2 ^ 31) (hb : b < 2 ^ 31) (c : nI b ≤ nI y) : b ≤ y := (nI_leI hb hy).mp c
theorem nle3 {y b : Nat} (hy : y < 2 ^ 31) (hb : b < 2 ^ 31) (c : ¬ nI b ≤ nI y) : y < b := Nat.not_le.mp (fun h => c ((nI_leI hb hy).mpr h))
theorem lgc_lt {a b : Int64} : lg_cmp a b < 0 ↔ a.toInt < b.toInt := (lg_cmp_lt a b).trans Int64.lt_iff_toInt_lt
theorem lgc_gt {a b : Int64} : 0 < lg_cmp a b ↔ b.toInt < a.toInt := (lg_cmp_gt a b).trans Int64.lt_iff_toInt_lt
theorem sp_in {a lo hi : Int64} {K : Int32 → Prop} (h1 : lo.toInt ≤ a.toInt ∧ a.toInt ≤ hi.toInt → K 1) (h0 : ¬ (lo.toInt ≤ a.toInt ∧ a.toInt ≤ hi.toInt) → K 0) : wp_X10_in a lo hi K := by
  unfold wp_X10_in
  refine ⟨fun c => h0 ?_, fun c => ⟨fun c2 => h0 ?_, fun c2 => h1 ?_⟩⟩
  · have := lgc_lt.mp c; omega
  · have := lgc_gt.mp c2; omega
  · have z1 : ¬ a.toInt < lo.toInt := fun z => c (lgc_lt.mpr z)
    have z2 : ¬ hi.toInt < a.toInt := fun z => c2 (lgc_gt.mpr z)
    omega
theorem i2l_toInt (a : Int32) : a.toInt64.toInt = a.toInt := Int32.toInt_toInt64 a
/-- the powers of 3 in the model -/
def PW (sS : St) : Prop := ∀ k, k < 10 → sS 11 k = nI (3 ^ k)
theorem pow3_lt : ∀ k, k < 10 → 3 ^ k < 2 ^ 31 ∧ 0 < 3 ^ k := by decide
theorem sp_digit {sS : St} {sL : Int64} (hp : PW sS) {n x y : Nat} (hn : n < 2 ^ 31) (hx : x < 3) (hy : y < 3) {K : Int32 → Prop} (h : K (nI (n / 3 ^ (3 * x + y) % 3))) : wp_X10_digit sS sL (nI n) (nI x) (nI y) K := by
  unfold wp_X10_digit
  have hi : 3 * x + y < 10 := by omega
  have e1 : (3 : Int32) * nI x + nI y = nI (3 * x + y) := by rw [← nI_add, ← pk_mul]; rfl
  obtain ⟨p1, p2⟩ := pow3_lt _ hi
  rw [e1, nI_clamp (by omega), hp _ hi]
  refine ⟨vp_in_nI hi (by decide), nI_ne0 p2 p1, ?_⟩
  rw [pk_div hn p2 p1, show (3 : Int32) = nI 3 from rfl, pk_rem (Nat.lt_of_le_of_lt (Nat.div_le_self _ _) hn) (by decide) (by decide)]
  exact h
/-- the best of the first y ways -/
def bst (u v k : Nat) : Nat → Nat
  | 0 => 0
  | y + 1 => mx (bst u v k y) (cm (dg u (3 * (k / 3) + y)) (dg v (3 * y + k % 3)))
theorem mx_0 (a : Nat) : mx 0 a = a := by unfold mx; split <;> omega
theorem bst_3 (u v k : Nat) : bst u v k 3 = jd u v k := by
  simp only [bst, jd, mx_0]
  rw [show 3 * 0 + k % 3 = k % 3 by omega, show 3 * 1 + k % 3 = 3 + k % 3 by omega, show 3 * 2 + k % 3 = 6 + k % 3 by omega, show 3 * (k / 3) + 0 = 3 * (k / 3) by omega]
theorem bst_le (u v k y : Nat) : bst u v k y ≤ 2 := by
  induction y with
  | zero => simp [bst]
  | succ y ih => exact mx_le ih (cm_le _ _)
theorem sp_put2 {sS : St} {sL : Int64} (hp : PW sS) {u v : Nat} (hu : GW u) (hv : GW v) {K : Int32 → Prop} (h : K (nI (gn (jw u v)))) : wp_X10_put2 sS sL (nI (gn u)) (nI (gn v)) K := by
  unfold wp_X10_put2
  have hgu := gn_lt hu
  have hgv := gn_lt hv
  refine lp_ind (fun q => ∃ m, m ≤ 9 ∧ q = (nI (hT (jw u v) m), nI 8 - nI m)) (fun q => (q.2.toInt + 1).toNat) ?_ _ ⟨0, by omega, rfl⟩
  rintro _ R ⟨m, hm, rfl⟩ hR
  unfold F_X10_put2_6
  dsimp only
  have hi : (nI 8 - nI m).toInt = 8 - m := pk_sub_toInt (by omega) (by omega)
  have z0 : (0 : Int32).toInt = 0 := by decide
  constructor
  · intro c
    rw [ilt] at c
    have : m = 9 := by omega
    subst this
    rw [hT_9]
    exact h
  · intro c
    rw [ilt] at c
    have hm8 : m ≤ 8 := by omega
    have e1 : nI 8 - nI m = nI (8 - m) := pk_sub hm8
    have e3 : (nI 8 - nI m) + (-1) = nI 8 - nI (m + 1) := by
      rcases Nat.lt_or_ge m 8 with q | q
      · rw [pk_sub hm8, pk_sub (by omega), show 8 - m = (8 - (m + 1)) + 1 by omega, pk_m1]
      · have : m = 8 := by omega
        subst this; decide
    have hi2 : (nI 8 - nI (m + 1)).toInt = 8 - (m + 1 : Nat) := pk_sub_toInt (by omega) (by omega)
    have hk9 : 8 - m < 9 := by omega
    refine lp_ind (fun q => ∃ y, y ≤ 3 ∧ q = (nI (bst u v (8 - m) y), nI y)) (fun q => 3 - q.2.toNatClampNeg) ?_ _ ⟨0, by omega, rfl⟩
    rintro _ R2 ⟨y, hy, rfl⟩ hR2
    unfold F_X10_put2_17
    dsimp only
    constructor
    · intro c2
      have := le3 (y := y) (b := 3) (by omega) (by omega) c2
      have : y = 3 := by omega
      subst this
      rintro _ rfl _ rfl
      rw [e3, bst_3]
      refine hR _ ⟨m + 1, by omega, ?_⟩ ?_
      · simp only [hT]
        rw [show (3 : Int32) * nI (hT (jw u v) m) = nI (3 * hT (jw u v) m) by rw [← pk_mul]; rfl, nI_add, jw_dg u v _ hk9]
      · dsimp only
        omega
    · intro c2
      have hy3 := nle3 (y := y) (b := 3) (by omega) (by omega) c2
      rw [e1]
      rw [show nI (8 - m) / (3 : Int32) = nI ((8 - m) / 3) from pk_div (by omega) (by decide) (by decide), show nI (8 - m) - nI ((8 - m) / 3) * (3 : Int32) = nI ((8 - m) % 3) by rw [← pk_div (a := 8 - m) (d := 3) (by omega) (by decide) (by decide)]; exact pk_rem (by omega) (by decide) (by decide)]
      refine sp_digit hp (by omega) (by omega) hy3 ?_
      refine sp_digit hp (by omega) hy3 (by omega) ?_
      rw [gn_dig hu _ (by omega), gn_dig hv _ (by omega)]
      have hb2 := bst_le u v (8 - m) y
      have hda := hu.lt3 (3 * ((8 - m) / 3) + y) (by omega)
      have hdb := hv.lt3 (3 * y + (8 - m) % 3) (by omega)
      have hnext : ∀ t : Nat, t = cm (dg u (3 * ((8 - m) / 3) + y)) (dg v (3 * y + (8 - m) % 3)) → J_X10_put2_77 (nI (bst u v (8 - m) y)) (nI y) (nI t) R2 := by
        intro t et
        have ht2 : t ≤ 2 := by rw [et]; exact cm_le _ _
        unfold J_X10_put2_77
        constructor
        · intro c3
          have := le3 (y := bst u v (8 - m) y) (b := t) (by omega) (by omega) c3
          rintro _ rfl
          refine hR2 _ ⟨y + 1, by omega, ?_⟩ ?_
          · simp only [bst]; rw [← et, nI_1]; unfold mx; rw [if_neg (by omega)]
          · dsimp only; rw [nI_1, nI_clamp (by omega), nI_clamp (by omega)]; omega
        · intro c3
          have := nle3 (y := bst u v (8 - m) y) (b := t) (by omega) (by omega) c3
          rintro _ rfl
          refine hR2 _ ⟨y + 1, by omega, ?_⟩ ?_
          · simp only [bst]; rw [← et, nI_1]; unfold mx; rw [if_pos this]
          · dsimp only; rw [nI_1, nI_clamp (by omega), nI_clamp (by omega)]; omega
      refine ⟨fun c3 => ?_, fun c3 => ⟨fun c4 => ?_, fun c4 => ⟨fun c5 => ?_, fun c5 => ?_⟩⟩⟩
      · have z := nI_eq0 (b := 0) (by omega) (by decide) c3
        exact hnext 0 (by rw [z]; rfl)
      · have z := nI_eq0 (b := 0) (by omega) (by decide) c4
        exact hnext 0 (by rw [z]; unfold cm; rw [if_pos (Or.inr rfl)])
      · have z3 : dg u (3 * ((8 - m) / 3) + y) ≠ 0 := fun z => c3 (by rw [z]; rfl)
        have z4 : dg v (3 * y + (8 - m) % 3) ≠ 0 := fun z => c4 (by rw [z]; rfl)
        rw [nI_add] at c5
        have z5 := le3 (b := dg u (3 * ((8 - m) / 3) + y) + dg v (3 * y + (8 - m) % 3)) (y := 2) (by omega) (by omega) c5
        exact hnext 1 (by unfold cm; rw [if_neg (by omega), if_neg (by omega)])
      · have z3 : dg u (3 * ((8 - m) / 3) + y) ≠ 0 := fun z => c3 (by rw [z]; rfl)
        have z4 : dg v (3 * y + (8 - m) % 3) ≠ 0 := fun z => c4 (by rw [z]; rfl)
        rw [nI_add] at c5
        have z5 := nle3 (b := dg u (3 * ((8 - m) / 3) + y) + dg v (3 * y + (8 - m) % 3)) (y := 2) (by omega) (by omega) c5
        exact hnext 2 (by unfold cm; rw [if_neg (by omega), if_pos (by omega)])
/-- the arcs of the i-th call in the model -/
def MA (sS : St) (i w : Nat) : Prop := ∀ k, k < 9 → sS 6 (9 * i + k) = nI (dg w k)
theorem sp_numberOf {sS : St} {sL : Int64} {i w : Nat} (hi8 : i < 8) (hw : GW w) (ha : MA sS i w) {K : Int32 → Prop} (h : K (nI (gn w))) : wp_X10_numberOf sS sL (nI i) K := by
  unfold wp_X10_numberOf
  refine lp_ind (fun q => ∃ m, m ≤ 9 ∧ q = (nI (hT w m), nI 8 - nI m)) (fun q => (q.2.toInt + 1).toNat) ?_ _ ⟨0, by omega, rfl⟩
  rintro _ R ⟨m, hm, rfl⟩ hR
  unfold F_X10_numberOf_5
  dsimp only
  have hi : (nI 8 - nI m).toInt = 8 - m := pk_sub_toInt (by omega) (by omega)
  have z0 : (0 : Int32).toInt = 0 := by decide
  constructor
  · intro c
    rw [ilt] at c
    have : m = 9 := by omega
    subst this
    rw [hT_9]
    exact h
  · intro c
    rw [ilt] at c
    have hm8 : m ≤ 8 := by omega
    have e1 : nI 8 - nI m = nI (8 - m) := pk_sub hm8
    have e3 : (nI 8 - nI m) + (-1) = nI 8 - nI (m + 1) := by
      rcases Nat.lt_or_ge m 8 with q | q
      · rw [pk_sub hm8, pk_sub (by omega), show 8 - m = (8 - (m + 1)) + 1 by omega, pk_m1]
      · have : m = 8 := by omega
        subst this; decide
    have hi2 : (nI 8 - nI (m + 1)).toInt = 8 - (m + 1 : Nat) := pk_sub_toInt (by omega) (by omega)
    have e2 : (9 : Int32) * nI i + (nI 8 - nI m) = nI (9 * i + (8 - m)) := by rw [e1, ← nI_add, ← pk_mul]; rfl
    rw [e2, e3, nI_clamp (by omega), ha (8 - m) (by omega)]
    refine ⟨vp_in_nI (by omega) (by decide), ?_⟩
    rintro _ rfl _ rfl
    refine hR _ ⟨m + 1, by omega, ?_⟩ ?_
    · simp only [hT]
      rw [show (3 : Int32) * nI (hT w m) = nI (3 * hT w m) by rw [← pk_mul]; rfl, nI_add]
    · dsimp only
      omega
