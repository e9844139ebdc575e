theorem row_dg {u x y : Nat} (hx : x < 3) (hy : y < 3) : dg (u / 64 ^ x % 64) y = dg u (3 * x + y) := by
  have key : ∀ x, x < 3 → ∀ y, y < 3 → dg (u / 64 ^ x % 64) y = dg u (3 * x + y) := by
    refine all3 ?_ ?_ ?_ <;> (refine all3 ?_ ?_ ?_ <;> (simp only [dg]; omega))
  exact key x hx y hy
theorem row_at {v y z : Nat} (hy : y < 3) (hz : z < 3) : v / 64 ^ y % 64 / 4 ^ z % 4 = dg v (3 * y + z) := row_dg hy hz
theorem cw_at {s o : Nat} : cw s o % 4 = cm s (o % 4) ∧ cw s o / 4 % 4 = cm s (o / 4 % 4) ∧ cw s o / 16 % 4 = cm s (o / 16 % 4) := by
  have h1 := cm_le s (o % 4); have h2 := cm_le s (o / 4 % 4); have h3 := cm_le s (o / 16 % 4)
  unfold cw
  refine ⟨?_, ?_, ?_⟩ <;> omega
theorem mx3_at {a b c : Nat} : dg (mx3 a b c) 0 = mx (mx (a % 4) (b % 4)) (c % 4) ∧ dg (mx3 a b c) 1 = mx (mx (a / 4 % 4) (b / 4 % 4)) (c / 4 % 4) ∧ dg (mx3 a b c) 2 = mx (mx (a / 16 % 4) (b / 16 % 4)) (c / 16 % 4) ∧ mx3 a b c < 64 := by
  have h1 : mx (mx (a % 4) (b % 4)) (c % 4) ≤ 3 := mx_le (mx_le (by omega) (by omega)) (by omega)
  have h2 : mx (mx (a / 4 % 4) (b / 4 % 4)) (c / 4 % 4) ≤ 3 := mx_le (mx_le (by omega) (by omega)) (by omega)
  have h3 : mx (mx (a / 16 % 4) (b / 16 % 4)) (c / 16 % 4) ≤ 3 := mx_le (mx_le (by omega) (by omega)) (by omega)
  simp only [dg, mx3]
  refine ⟨?_, ?_, ?_, ?_⟩ <;> omega
theorem jr_lt (r v : Nat) : jr r v < 64 := mx3_at.2.2.2
/-- the rows of two graphs put together -/
theorem jr_dg {u v x z : Nat} (hx : x < 3) (hz : z < 3) : dg (jr (u / 64 ^ x % 64) v) z = jd u v (3 * x + z) := by
  have e1 : (3 * x + z) / 3 = x := by omega
  have e2 : (3 * x + z) % 3 = z := by omega
  unfold jd
  rw [e1, e2]
  have q0 := row_dg (u := u) hx (y := 0) (by omega)
  have q1 := row_dg (u := u) hx (y := 1) (by omega)
  have q2 := row_dg (u := u) hx (y := 2) (by omega)
  rw [show 3 * x + 0 = 3 * x by omega] at q0
  unfold jr
  rw [q0, q1, q2]
  have p0 := row_at (v := v) (y := 0) (by omega) hz
  have p1 := row_at (v := v) (y := 1) (by omega) hz
  have p2 := row_at (v := v) (y := 2) (by omega) hz
  rw [show 3 * 0 + z = z by omega] at p0
  rw [show 3 * 1 + z = 3 + z by omega] at p1
  rw [show 3 * 2 + z = 6 + z by omega] at p2
  match z, hz with
  | 0, _ =>
    rw [mx3_at.1, cw_at.1, cw_at.1, cw_at.1]
    simp only [Nat.pow_zero, Nat.div_one] at p0 p1 p2 ⊢
    rw [p0, p1, p2]
  | 1, _ =>
    rw [mx3_at.2.1, cw_at.2.1, cw_at.2.1, cw_at.2.1]
    simp only [Nat.pow_one] at p0 p1 p2
    rw [p0, p1, p2]
  | 2, _ =>
    rw [mx3_at.2.2.1, cw_at.2.2, cw_at.2.2, cw_at.2.2]
    simp only [show (4 : Nat) ^ 2 = 16 from rfl] at p0 p1 p2
    rw [p0, p1, p2]
  | z + 3, h => exact absurd h (by omega)
theorem jr_V6 {u v x : Nat} (hx : x < 3) : V6 (jr (u / 64 ^ x % 64) v) := by
  have h0 := jr_dg (u := u) (v := v) hx (z := 0) (by omega)
  have h1 := jr_dg (u := u) (v := v) hx (z := 1) (by omega)
  have h2 := jr_dg (u := u) (v := v) hx (z := 2) (by omega)
  have l0 := jd_le u v (3 * x + 0); have l1 := jd_le u v (3 * x + 1); have l2 := jd_le u v (3 * x + 2)
  rw [← h0] at l0; rw [← h1] at l1; rw [← h2] at l2
  simp only [dg] at l0 l1 l2
  exact V6_of (jr_lt _ _) (by simpa using l0) (by simpa using l1) (by simpa using l2)
theorem sx_ok : ∀ x, x < 3 → ∀ k, k < 27 → nI (w6 k) <<< (nI (6 * x) &&& 31) = nI (w6 k * 64 ^ x) ∧ w6 k * 64 ^ x < 262144 ∧ ∀ i, i < 9 → dg (w6 k * 64 ^ x) i = if 3 * x ≤ i ∧ i < 3 * x + 3 then dg (w6 k) (i - 3 * x) else 0 := by decide +kernel
def Jp (u v m : Nat) : Nat := h4 (fun i => if i < m then jd u v i else 0)
theorem Jp_dg (u v m : Nat) : ∀ j, j < 9 → dg (Jp u v m) j = if j < m then jd u v j else 0 := dg_h4 (fun j _ => by have := jd_le u v j; split <;> omega)
theorem Jp_lt (u v m : Nat) : Jp u v m < 262144 := h4_lt (fun j _ => by have := jd_le u v j; split <;> omega)
theorem Jp_9 (u v : Nat) : Jp u v 9 = jw u v := by simp [Jp, jw, h4]
theorem sp_join {u v : Nat} (hu : GW u) (hv : GW v) {K : Int32 → Prop} (h : K (nI (jw u v))) : wp_X0_join (nI u) (nI v) K := by
  unfold wp_X0_join
  refine lp_ind (fun q => ∃ x, x ≤ 3 ∧ q = (nI (Jp u v (3 * x)), nI x)) (fun q => 3 - q.2.toNatClampNeg) ?_ _ ⟨0, by omega, rfl⟩
  rintro _ R ⟨x, hx, rfl⟩ hR
  unfold F_X0_join_4
  dsimp only
  have hu1 := hu.1
  constructor
  · intro c
    have : x = 3 := by
      rcases Nat.lt_or_ge x 3 with q | q
      · exact absurd c (nI_ge (b := 3) q (by decide))
      · omega
    subst this
    rw [show 3 * 3 = 9 from rfl, Jp_9]
    exact h
  · intro c
    have hx3 : x < 3 := by
      rcases Nat.lt_or_ge x 3 with q | q
      · exact q
      · exact absurd (nI_le (a := 3) q (by omega)) c
    refine sp_row (by omega) hx3 ?_
    refine sp_joinRow (by omega) (fun y hy => ?_) hv ?_
    · rw [row_dg hx3 hy]; exact hu.lt3 _ (by omega)
    · rintro _ rfl _ rfl
      obtain ⟨k, hk, ek⟩ := jr_V6 (u := u) (v := v) hx3
      obtain ⟨s1, s2, s3⟩ := sx_ok x hx3 k hk
      rw [← ek] at s1 s2 s3
      rw [show (6 : Int32) * nI x = nI (6 * x) by rw [← pk_mul]; rfl, s1, nI_or, nI_1]
      refine hR _ ⟨x + 1, by omega, ?_⟩ ?_
      · have e4 : Jp u v (3 * x) ||| jr (u / 64 ^ x % 64) v * 64 ^ x = Jp u v (3 * (x + 1)) := by
          refine GW.ext (or_lt18 (Jp_lt u v _) s2) (Jp_lt u v _) (fun j hj => ?_)
          rw [dg_or, s3 j hj, Jp_dg u v _ j hj, Jp_dg u v _ j hj]
          have h3 : jd u v j < 4 := by have := jd_le u v j; omega
          rcases Nat.lt_or_ge j (3 * x) with q | q
          · rw [if_pos q, if_neg (by omega), if_pos (by omega)]; exact (or0 _ h3).2
          · rcases Nat.lt_or_ge j (3 * x + 3) with q2 | q2
            · rw [if_neg (by omega), if_pos ⟨q, q2⟩, if_pos (by omega), jr_dg hx3 (by omega), show 3 * x + (j - 3 * x) = j by omega]
              exact (or0 _ h3).1
            · rw [if_neg (by omega), if_neg (by omega), if_neg (by omega)]; rfl
        rw [e4]
      · dsimp only
        rw [nI_clamp (by omega), nI_clamp (by omega)]
        omega
/-- LESS from a place to itself -/
def hl (w : Nat) : Prop := dg w 0 = 2 ∨ dg w 4 = 2 ∨ dg w 8 = 2
theorem hlm_ok : ∀ i, i < 9 → dg 131586 i = if i = 0 ∨ i = 4 ∨ i = 8 then 2 else 0 := by decide +kernel
theorem and2_ok : ∀ d, d < 3 → (d &&& 2 = 0 ↔ d ≠ 2) ∧ d &&& 0 = 0 := by decide
theorem hl_iff {w : Nat} (hw : GW w) : w &&& 131586 = 0 ↔ ¬ hl w := by
  have hd : ∀ i, i < 9 → dg (w &&& 131586) i = dg w i &&& (if i = 0 ∨ i = 4 ∨ i = 8 then 2 else 0) := fun i hi => by rw [dg_and, hlm_ok i hi]
  constructor
  · intro h
    rw [h] at hd
    have z : ∀ i, dg 0 i = 0 := fun i => by simp [dg]
    have a0 := hd 0 (by omega); have a4 := hd 4 (by omega); have a8 := hd 8 (by omega)
    rw [z] at a0 a4 a8
    rintro (q | q | q)
    · exact ((and2_ok _ (hw.lt3 0 (by omega))).1.mp a0.symm) q
    · exact ((and2_ok _ (hw.lt3 4 (by omega))).1.mp a4.symm) q
    · exact ((and2_ok _ (hw.lt3 8 (by omega))).1.mp a8.symm) q
  · intro h
    refine GW.ext (Nat.lt_of_le_of_lt Nat.and_le_left hw.1) (by decide) (fun i hi => ?_)
    rw [hd i hi]
    have z : dg 0 i = 0 := by simp [dg]
    rw [z]
    by_cases q : i = 0 ∨ i = 4 ∨ i = 8
    · rw [if_pos q]
      refine (and2_ok _ (hw.lt3 i hi)).1.mpr (fun e => h ?_)
      rcases q with rfl | rfl | rfl
      · exact Or.inl e
      · exact Or.inr (Or.inl e)
      · exact Or.inr (Or.inr e)
    · rw [if_neg q]; exact (and2_ok _ (hw.lt3 i hi)).2
theorem sp_hasLess {w : Nat} (hw : GW w) {K : Int32 → Prop} (h1 : hl w → K 1) (h0 : ¬ hl w → K 0) : wp_X0_hasLessToItself (nI w) K := by
  unfold wp_X0_hasLessToItself
  have hw1 := hw.1
  rw [show (131586 : Int32) = nI 131586 from rfl, nI_and]
  have hb : w &&& 131586 < 2 ^ 31 := by have := @Nat.and_le_left w 131586; omega
  refine ⟨fun c => h0 ((hl_iff hw).mp (nI_eq0 hb (by decide) c)), fun c => h1 (Classical.byContradiction fun q => c ?_)⟩
  rw [(hl_iff hw).mpr q]
  rfl
