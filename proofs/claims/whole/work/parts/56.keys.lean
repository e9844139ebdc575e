/-- a graph with its two acts in one number -/
def key (x : Nd) : Nat := x.1 * 1048576 + x.2.1 * 262144 + x.2.2
theorem key_lt {x : Nd} (h : NV x) : key x < 4194304 := by
  obtain ⟨h1, h2, h3⟩ := h
  have := h3.1
  unfold key; omega
theorem key_parts {x : Nd} (h : NV x) : key x / 1048576 % 4 = x.1 ∧ key x / 262144 % 4 = x.2.1 ∧ key x % 262144 = x.2.2 := by
  obtain ⟨h1, h2, h3⟩ := h
  have := h3.1
  unfold key
  refine ⟨?_, ?_, ?_⟩ <;> omega
theorem key_inj {x y : Nd} (hx : NV x) (hy : NV y) (h : key x = key y) : x = y := by
  obtain ⟨a1, a2, a3⟩ := key_parts hx
  obtain ⟨b1, b2, b3⟩ := key_parts hy
  obtain ⟨a, b, w⟩ := x
  obtain ⟨a', b', w'⟩ := y
  rw [h] at a1 a2 a3
  simp only at *
  rw [← a1, ← a2, ← a3, b1, b2, b3]
theorem sp_of {a b w : Nat} (ha : a < 4) (hb : b < 4) (hw : w < 262144) {K : Int32 → Prop} (h : K (nI (key (a, b, w)))) : wp_X3_of (nI a) (nI b) (nI w) K := by
  unfold wp_X3_of
  have e1 : nI a <<< ((20 : Int32) &&& 31) = nI (a * 2 ^ 20) := shl_nI (k := 20) (by decide) (by omega)
  have e2 : nI b <<< ((18 : Int32) &&& 31) = nI (b * 2 ^ 18) := shl_nI (k := 18) (by decide) (by omega)
  rw [e1, e2, nI_or, nI_or]
  have e3 : a * 2 ^ 20 ||| b * 2 ^ 18 = 2 ^ 18 * (4 * a + b) := by
    have := Nat.two_pow_add_eq_or_of_lt (i := 20) (b := b * 2 ^ 18) (by omega) a
    rw [Nat.mul_comm a, ← this]; omega
  have e4 : a * 2 ^ 20 ||| b * 2 ^ 18 ||| w = key (a, b, w) := by
    rw [e3, ← Nat.two_pow_add_eq_or_of_lt (i := 18) hw]
    unfold key; simp only; omega
  rw [e4]
  exact h
section KEYS
variable {x : Nd} {K : Int32 → Prop}
theorem sp_kfrom (hx : NV x) (h : K (nI x.1)) : wp_X3_from (nI (key x)) K := by
  unfold wp_X3_from
  have hl := key_lt hx
  rw [show nI (key x) >>> ((20 : Int32) &&& 31) = nI (key x / 2 ^ 20) from shr_nI (k := 20) (by omega) (by decide), and3 (by omega)]
  rw [show key x / 2 ^ 20 % 4 = x.1 from (key_parts hx).1]
  exact h
theorem sp_kto (hx : NV x) (h : K (nI x.2.1)) : wp_X3_to (nI (key x)) K := by
  unfold wp_X3_to
  have hl := key_lt hx
  rw [show nI (key x) >>> ((18 : Int32) &&& 31) = nI (key x / 2 ^ 18) from shr_nI (k := 18) (by omega) (by decide), and3 (by omega)]
  rw [show key x / 2 ^ 18 % 4 = x.2.1 from (key_parts hx).2.1]
  exact h
theorem kand (hx : NV x) : nI (key x) &&& (262143 : Int32) = nI x.2.2 := by
  have hl := key_lt hx
  rw [pk_andN (m := (262143 : Int32)) (by omega) 18 (by decide)]
  rw [show key x % 2 ^ 18 = x.2.2 from (key_parts hx).2.2]
theorem sp_karcs (hx : NV x) (h : K (nI x.2.2)) : wp_X3_arcs (nI (key x)) K := by
  unfold wp_X3_arcs
  rw [kand hx]
  exact h
theorem sp_kround (hx : NV x) (h : K (bi (rdb x))) : wp_X3_isRound (nI (key x)) K := by
  unfold wp_X3_isRound
  rw [kand hx]
  rintro _ rfl
  have h1 := hx.1
  have h2 := hx.2.1
  have h3 := hx.2.2.1
  have h4 := (jw_GW x.2.2 x.2.2).1
  refine sp_kfrom hx (sp_kto hx ?_)
  rw [nI_eq (by omega) (by omega)]
  unfold rdb at h
  refine ⟨fun c => sp_join hx.2.2 hx.2.2 ?_, fun c => ?_⟩
  · rw [nI_eq (by omega) (by omega)]
    refine ⟨fun c2 => ?_, fun c2 => ?_⟩
    · rw [decide_eq_true c, decide_eq_true c2] at h; exact h
    · rw [decide_eq_true c, decide_eq_false c2] at h; exact h
  · rw [decide_eq_false c] at h; exact h
theorem sp_kbad (hx : NV x) (h : K (bi (badb x))) : wp_X3_isBad (nI (key x)) K := by
  unfold wp_X3_isBad
  rw [kand hx]
  rintro _ rfl
  have h1 := hx.1
  have h2 := hx.2.1
  have h3 := hx.2.2.1
  have h4 := (jw_GW x.2.2 x.2.2).1
  refine sp_kfrom hx (sp_kto hx ?_)
  rw [nI_eq (by omega) (by omega)]
  unfold badb rdb at h
  refine ⟨fun c => sp_hasLessB hx.2.2 ?_, fun c => ?_⟩
  · rw [bi_0]
    refine ⟨fun c1 => sp_join hx.2.2 hx.2.2 ?_, fun c1 => ?_⟩
    · rw [nI_eq (by omega) (by omega)]
      refine ⟨fun c2 => ?_, fun c2 => ?_⟩
      · rw [decide_eq_true c, decide_eq_true c2, c1] at h; exact h
      · rw [decide_eq_true c, decide_eq_false c2] at h; exact h
    · rw [bt_of c1] at h
      simp only [Bool.not_true, Bool.and_false] at h
      exact h
  · rw [decide_eq_false c] at h; exact h
theorem key_row (hx : NV x) : ∀ i, i < 3 → key x / 64 ^ i % 64 = x.2.2 / 64 ^ i % 64 := by
  have := hx.2.2.1
  unfold key
  refine all3 ?_ ?_ ?_ <;> omega
end KEYS
/-- the rows joined ahead of time, and for which arcs -/
def JC (sK : St) : Prop := ∀ c, c < 8 → sK 6 c = -1 ∨ ∃ w, GW w ∧ sK 6 c = nI w ∧ ∀ r, r < 64 → V6 r → sK 5 (64 * c + r) = nI (jr r w)
theorem v6c : ∀ r, r < 64 → (((nI r &&& (nI r >>> ((1 : Int32) &&& 31))) &&& (21 : Int32)) = 0 ↔ (List.range 27).any (fun k => decide (r = w6 k)) = true) := by decide +kernel
theorem V6_any {r : Nat} : (List.range 27).any (fun k => decide (r = w6 k)) = true ↔ V6 r := by
  rw [List.any_eq_true]
  constructor
  · rintro ⟨k, hk, e⟩
    exact ⟨k, List.mem_range.mp hk, of_decide_eq_true e⟩
  · rintro ⟨k, hk, e⟩
    exact ⟨k, List.mem_range.mpr hk, decide_eq_true e⟩
theorem V6_dg {r : Nat} (h : V6 r) : r < 64 ∧ ∀ y, y < 3 → dg r y < 3 := by
  obtain ⟨k, hk, rfl⟩ := h
  have : ∀ k, k < 27 → w6 k < 64 ∧ ∀ y, y < 3 → dg (w6 k) y < 3 := by decide +kernel
  exact this k hk
section CACHE
variable {sK : St}
theorem sp_prepare (hJ : JC sK) {c w : Nat} (hc : c < 8) (hw : GW w) {K : St → Prop} (h : ∀ s', JC s' → s' 6 c = nI w → (∀ d, d < 8 → d ≠ c → s' 6 d = sK 6 d) → (∀ q, q ≠ 5 → q ≠ 6 → s' q = sK q) → K s') : wp_X2_prepare sK (nI c) (nI w) K := by
  unfold wp_X2_prepare
  have i8 : vp_in (nI c) 8 := vp_in_nI hc (by decide)
  have hw1 := hw.1
  rw [nI_clamp (n := c) (by omega)]
  refine ⟨i8, fun e => h sK hJ e (fun _ _ _ => rfl) (fun _ _ _ => rfl), fun _ => ?_⟩
  refine lp_ind (fun q => ∃ r s, r ≤ 64 ∧ q = (nI r, s) ∧ (∀ r', r' < r → V6 r' → s 5 (64 * c + r') = nI (jr r' w)) ∧ (∀ j, j < 64 * c ∨ 64 * c + 64 ≤ j → s 5 j = sK 5 j) ∧ ∀ q, q ≠ 5 → s q = sK q) (fun q => 64 - q.1.toNatClampNeg) ?_ _ ⟨0, sK, by omega, rfl, fun r' h' => absurd h' (by omega), fun _ _ => rfl, fun _ _ => rfl⟩
  rintro _ R ⟨r, s, hr, rfl, a1, a2, a3⟩ hR
  unfold F_X2_prepare_13
  dsimp only
  rw [show (63 : Int32) = nI 63 from rfl, nI_ltI (by decide) (by omega)]
  constructor
  · intro c1
    have : r = 64 := by omega
    subst this
    refine ⟨i8, ?_⟩
    rintro _ rfl
    have hcc : (nI c).toNatClampNeg = c := nI_clamp (by omega)
    refine h _ (fun d hd => ?_) (by rw [ua_s, hcc, pk_us]) (fun d hd hne => by rw [ua_s, hcc, pk_un hne, a3 6 (by decide)]) (fun q q5 q6 => by rw [ua_n q6]; exact a3 q q5)
    rw [ua_s, hcc, ua_n (by decide)]
    by_cases e : d = c
    · subst e
      rw [pk_us]
      exact Or.inr ⟨w, hw, rfl, fun r' h1 h2 => a1 r' h1 h2⟩
    · rw [pk_un e, a3 6 (by decide)]
      rcases hJ d hd with q | ⟨w', g1, g2, g3⟩
      · exact Or.inl q
      · refine Or.inr ⟨w', g1, g2, fun r' h1 h2 => ?_⟩
        rw [a2 (64 * d + r') (by omega)]
        exact g3 r' h1 h2
  · intro c1
    have hr64 : r < 64 := by omega
    rw [v6c r hr64, V6_any]
    have e1 : nI c * (64 : Int32) + nI r = nI (64 * c + r) := by
      rw [show nI c * (64 : Int32) = nI (c * 64) by rw [← pk_mul]; rfl, nI_add, Nat.mul_comm]
    refine ⟨fun c2 => ?_, fun c2 => ?_⟩
    · obtain ⟨-, hd⟩ := V6_dg c2
      refine sp_joinRow hr64 hd hw ?_
      rw [e1]
      refine ⟨vp_in_nI (by omega) (by decide), ?_⟩
      rintro _ rfl _ rfl
      rw [nI_1]
      have hcc : (nI (64 * c + r)).toNatClampNeg = 64 * c + r := nI_clamp (by omega)
      refine hR _ ⟨r + 1, _, by omega, rfl, fun r' h1 h2 => ?_, fun j hj => ?_, fun q hq => by rw [ua_n hq]; exact a3 q hq⟩ ?_
      · rw [ua_s, hcc]
        by_cases e : r' = r
        · subst e; rw [pk_us]
        · rw [pk_un (by omega)]; exact a1 r' (by omega) h2
      · rw [ua_s, hcc, pk_un (by omega)]; exact a2 j hj
      · dsimp only; rw [nI_clamp (by omega), nI_clamp (by omega)]; omega
    · rintro _ rfl
      rw [nI_1]
      refine hR _ ⟨r + 1, s, by omega, rfl, fun r' h1 h2 => ?_, a2, a3⟩ ?_
      · by_cases e : r' = r
        · subst e; exact absurd h2 c2
        · exact a1 r' (by omega) h2
      · dsimp only; rw [nI_clamp (by omega), nI_clamp (by omega)]; omega
theorem jw_rows {u v : Nat} : (jr (u / 64 ^ 0 % 64) v ||| jr (u / 64 ^ 1 % 64) v * 64) ||| jr (u / 64 ^ 2 % 64) v * 4096 = jw u v := by
  obtain ⟨k0, l0, e0⟩ := jr_V6 (u := u) (v := v) (x := 0) (by decide)
  obtain ⟨k1, l1, e1⟩ := jr_V6 (u := u) (v := v) (x := 1) (by decide)
  obtain ⟨k2, l2, e2⟩ := jr_V6 (u := u) (v := v) (x := 2) (by decide)
  obtain ⟨-, s2, s3⟩ := sx_ok 0 (by decide) k0 l0
  obtain ⟨-, t2, t3⟩ := sx_ok 1 (by decide) k1 l1
  obtain ⟨-, r2, r3⟩ := sx_ok 2 (by decide) k2 l2
  rw [← e0] at s2 s3; rw [← e1] at t2 t3; rw [← e2] at r2 r3
  simp only [Nat.pow_zero, Nat.mul_one] at s2 s3
  simp only [Nat.pow_one] at t2 t3
  simp only [show (64 : Nat) ^ 2 = 4096 from rfl] at r2 r3
  simp only [Nat.pow_zero, Nat.pow_one, show (64 : Nat) ^ 2 = 4096 from rfl]
  refine GW.ext (or_lt18 (or_lt18 s2 t2) r2) (jw_GW u v).1 (fun i hi => ?_)
  rw [dg_or, dg_or, s3 i hi, t3 i hi, r3 i hi, jw_dg u v i hi]
  have hj : jd u v i < 4 := by have := jd_le u v i; omega
  have d0 := fun z hz => jr_dg (u := u) (v := v) (x := 0) (z := z) (by decide) hz
  have d1 := fun z hz => jr_dg (u := u) (v := v) (x := 1) (z := z) (by decide) hz
  have d2 := fun z hz => jr_dg (u := u) (v := v) (x := 2) (z := z) (by decide) hz
  simp only [Nat.pow_zero, Nat.pow_one, show (64 : Nat) ^ 2 = 4096 from rfl] at d0 d1 d2
  rcases Nat.lt_or_ge i 3 with q | q
  · rw [if_pos (by omega), if_neg (by omega), if_neg (by omega), d0 _ (by omega), show 3 * 0 + (i - 3 * 0) = i by omega, (or0 _ hj).2, (or0 _ hj).2]
  · rcases Nat.lt_or_ge i 6 with q2 | q2
    · rw [if_neg (by omega), if_pos (by omega), if_neg (by omega), d1 _ (by omega), show 3 * 1 + (i - 3 * 1) = i by omega, (or0 _ hj).1, (or0 _ hj).2]
    · rw [if_neg (by omega), if_neg (by omega), if_pos (by omega), d2 _ (by omega), show 3 * 2 + (i - 3 * 2) = i by omega]
      exact (or0 _ hj).1
theorem sp_joined (hJ : JC sK) {c w : Nat} (hc : c < 8) (hw : GW w) (h6 : sK 6 c = nI w) {x : Nd} (hx : NV x) {K : Int32 → Prop} (h : K (nI (jw x.2.2 w))) : wp_X2_joinedWithCall sK (nI (key x)) (nI c) K := by
  unfold wp_X2_joinedWithCall
  have hw1 := hw.1
  have hkl := key_lt hx
  have g : ∀ r, r < 64 → V6 r → sK 5 (64 * c + r) = nI (jr r w) := by
    rcases hJ c hc with q | ⟨w', g1, g2, g3⟩
    · rw [h6] at q
      have := nI_toInt (n := w) (by omega)
      rw [q] at this
      have z : (-1 : Int32).toInt = -1 := by decide
      omega
    · rw [h6] at g2
      have := nI_eq0 (by omega) (by have := g1.1; omega) g2
      subst this
      exact g3
  rintro _ rfl
  have e1 : ∀ r, nI c * (64 : Int32) + nI r = nI (64 * c + r) := fun r => by
    rw [show nI c * (64 : Int32) = nI (c * 64) by rw [← pk_mul]; rfl, nI_add, Nat.mul_comm]
  refine sp_row (x := 0) (by omega) (by decide) ?_
  rw [e1]
  refine ⟨vp_in_nI (by omega) (by decide), sp_row (x := 1) (by omega) (by decide) ?_⟩
  rw [e1]
  refine ⟨vp_in_nI (by omega) (by decide), sp_row (x := 2) (by omega) (by decide) ?_⟩
  rw [e1]
  refine ⟨vp_in_nI (by omega) (by decide), ?_⟩
  rw [nI_clamp (by omega), nI_clamp (by omega), nI_clamp (by omega), key_row hx 0 (by decide), key_row hx 1 (by decide), key_row hx 2 (by decide)]
  rw [g _ (by omega) (hx.2.2.row6 0 (by decide)), g _ (by omega) (hx.2.2.row6 1 (by decide)), g _ (by omega) (hx.2.2.row6 2 (by decide))]
  have j1 := jr_lt (x.2.2 / 64 ^ 1 % 64) w
  have j2 := jr_lt (x.2.2 / 64 ^ 2 % 64) w
  rw [show nI (jr (x.2.2 / 64 ^ 1 % 64) w) <<< ((6 : Int32) &&& 31) = nI (jr (x.2.2 / 64 ^ 1 % 64) w * 64) from shl_nI (k := 6) (by decide) (by omega), show nI (jr (x.2.2 / 64 ^ 2 % 64) w) <<< ((12 : Int32) &&& 31) = nI (jr (x.2.2 / 64 ^ 2 % 64) w * 4096) from shl_nI (k := 12) (by decide) (by omega), nI_or, nI_or, jw_rows]
  exact h
end CACHE
