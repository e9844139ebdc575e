theorem ilt {a b : Int32} : a < b ↔ a.toInt < b.toInt := Int32.lt_iff_toInt_lt
theorem ile {a b : Int32} : a ≤ b ↔ a.toInt ≤ b.toInt := Int32.le_iff_toInt_le
theorem sh_ok : ∀ k, k < 32 → ((nI k &&& 31).toBitVec.smod 32).toNat = k := by decide
theorem shr_nI {w k : Nat} (hw : w < 2 ^ 31) (hk : k < 32) : nI w >>> (nI k &&& 31) = nI (w / 2 ^ k) := pk_shrN hw _ k (sh_ok k hk)
theorem shl_nI {w k : Nat} (hk : k < 32) (h : w * 2 ^ k < 2 ^ 32) : nI w <<< (nI k &&& 31) = nI (w * 2 ^ k) := pk_shlN _ k (sh_ok k hk) h
theorem and3 {n : Nat} (h : n < 2 ^ 32) : nI n &&& 3 = nI (n % 4) := pk_andN h 2 (by decide)
theorem and63 {n : Nat} (h : n < 2 ^ 32) : nI n &&& 63 = nI (n % 64) := pk_andN h 6 (by decide)
theorem and1 {n : Nat} (h : n < 2 ^ 32) : nI n &&& 1 = nI (n % 2) := pk_andN h 1 (by decide)
theorem dg_pow (w i : Nat) : w / 2 ^ (2 * i) % 4 = dg w i := by rw [Nat.pow_mul]; rfl
theorem dg_lt (w i : Nat) : dg w i < 4 := Nat.mod_lt _ (by decide)
theorem dg_or (a b i : Nat) : dg (a ||| b) i = dg a i ||| dg b i := by
  rw [← dg_pow, ← dg_pow, ← dg_pow, Nat.or_div_two_pow, show (4 : Nat) = 2 ^ 2 from rfl, Nat.or_mod_two_pow]
theorem dg_and (a b i : Nat) : dg (a &&& b) i = dg a i &&& dg b i := by
  rw [← dg_pow, ← dg_pow, ← dg_pow, Nat.and_div_two_pow, show (4 : Nat) = 2 ^ 2 from rfl, Nat.and_mod_two_pow]
/-- the two bits of an arc -/
theorem bits2 {w i : Nat} (hw : w < 2 ^ 31) (hi : i < 16) : (nI w >>> ((nI 2 * nI i) &&& 31)) &&& 3 = nI (dg w i) := by
  rw [pk_mul, shr_nI hw (by omega), and3 (by have := Nat.div_le_self w (2 ^ (2 * i)); omega), dg_pow]
theorem sp_isNumber {n : Int32} {K : Int32 → Prop} (h : K (if 0 ≤ n.toInt ∧ n.toInt < 19683 then 1 else 0)) : wp_X0_isNumber n K := by
  unfold wp_X0_isNumber
  refine ⟨fun c => ?_, fun c => ⟨fun c2 => ?_, fun c2 => ?_⟩⟩
  · rw [ilt] at c
    rw [if_neg (by have : (0 : Int32).toInt = 0 := by decide
                   omega)] at h
    exact h
  · rw [ile] at c2
    rw [if_neg (by have : (19683 : Int32).toInt = 19683 := by decide
                   omega)] at h
    exact h
  · rw [ilt] at c; rw [ile] at c2
    rw [if_pos (by have h1 : (19683 : Int32).toInt = 19683 := by decide
                   have h2 : (0 : Int32).toInt = 0 := by decide
                   omega)] at h
    exact h
theorem sp_at {w x y : Nat} (hw : w < 2 ^ 31) (hx : x < 3) (hy : y < 3) {K : Int32 → Prop} (h : K (nI (dg w (3 * x + y)))) : wp_X0_at (nI w) (nI x) (nI y) K := by
  unfold wp_X0_at
  rw [show (2 : Int32) * ((3 : Int32) * nI x + nI y) = nI 2 * nI (3 * x + y) by rw [← nI_add, ← pk_mul]; rfl, bits2 hw (by omega)]
  exact h
theorem sp_row {w x : Nat} (hw : w < 2 ^ 31) (hx : x < 3) {K : Int32 → Prop} (h : K (nI (w / 64 ^ x % 64))) : wp_X0_row (nI w) (nI x) K := by
  unfold wp_X0_row
  rw [show (6 : Int32) * nI x = nI (6 * x) by rw [← pk_mul]; rfl, shr_nI hw (by omega), and63 (by have := Nat.div_le_self w (2 ^ (6 * x)); omega), Nat.pow_mul]
  exact h
/-- a digit is put -/
def sd (w i v : Nat) : Nat := h4 (fun j => if j = i then v else dg w j)
theorem sd_dg {w i v : Nat} (hv : v < 4) : ∀ j, j < 9 → dg (sd w i v) j = if j = i then v else dg w j := dg_h4 (fun j _ => by
  split
  · exact hv
  · exact dg_lt w j)
theorem sd_GW {w i v : Nat} (hw : GW w) (hv : v ≤ 2) : GW (sd w i v) := GW_h4 (fun j hj => by
  split
  · exact hv
  · exact hw.2 j hj)
theorem msk_ok : ∀ i, i < 9 → ((3 : Int32) <<< (nI (2 * i) &&& 31)) ^^^ (-1) = nI (2 ^ 32 - 1 - 3 * 4 ^ i) ∧ ∀ j, j < 9 → dg (2 ^ 32 - 1 - 3 * 4 ^ i) j = if j = i then 0 else 3 := by decide +kernel
theorem sv_ok : ∀ i, i < 9 → ∀ v, v < 4 → nI v <<< (nI (2 * i) &&& 31) = nI (v * 4 ^ i) ∧ v * 4 ^ i < 262144 ∧ ∀ j, j < 9 → dg (v * 4 ^ i) j = if j = i then v else 0 := by decide +kernel
theorem and_or_ok : ∀ d, d < 4 → ∀ v, v < 4 → (d &&& 3) ||| 0 = d ∧ (d &&& 0) ||| v = v := by decide
theorem or_lt18 {a b : Nat} (ha : a < 262144) (hb : b < 262144) : a ||| b < 262144 := Nat.or_lt_two_pow (n := 18) ha hb
theorem sp_with {w x y v : Nat} (hw : w < 262144) (hx : x < 3) (hy : y < 3) (hv : v < 4) {K : Int32 → Prop} (h : K (nI (sd w (3 * x + y) v))) : wp_X0_with (nI w) (nI x) (nI y) (nI v) K := by
  unfold wp_X0_with
  have hi : 3 * x + y < 9 := by omega
  rw [show (2 : Int32) * ((3 : Int32) * nI x + nI y) = nI (2 * (3 * x + y)) by rw [← pk_mul, ← nI_add, ← pk_mul]; rfl]
  rintro _ rfl
  rw [(msk_ok _ hi).1, (sv_ok _ hi v hv).1, nI_and, nI_or]
  have e : w &&& (2 ^ 32 - 1 - 3 * 4 ^ (3 * x + y)) ||| v * 4 ^ (3 * x + y) = sd w (3 * x + y) v := by
    refine GW.ext (or_lt18 (Nat.lt_of_le_of_lt Nat.and_le_left hw) (sv_ok _ hi v hv).2.1) (h4_lt (fun j _ => ?_)) (fun j hj => ?_)
    · split
      · exact hv
      · exact dg_lt w j
    · rw [dg_or, dg_and, (msk_ok _ hi).2 j hj, (sv_ok _ hi v hv).2.2 j hj, sd_dg hv j hj]
      by_cases hji : j = 3 * x + y
      · rw [if_pos hji, if_pos hji, if_pos hji]; exact (and_or_ok _ (dg_lt w j) v hv).2
      · rw [if_neg hji, if_neg hji, if_neg hji]; exact (and_or_ok _ (dg_lt w j) v hv).1
  rw [e]
  exact h
/-- the number of the highest digits -/
def hT (w : Nat) : Nat → Nat
  | 0 => 0
  | m + 1 => 3 * hT w m + dg w (8 - m)
theorem hT_9 (w : Nat) : hT w 9 = gn w := by
  simp only [hT, gn, h3, Nat.reduceSub]; omega
theorem sp_toNumber {w : Nat} (hw : w < 262144) {K : Int32 → Prop} (h : K (nI (gn w))) : wp_X0_toNumber (nI w) K := by
  unfold wp_X0_toNumber
  refine lp_ind (fun q => ∃ m, m ≤ 9 ∧ q = (nI (hT w m), nI 8 - nI m)) (fun q => (q.2.toInt + 1).toNat) ?_ _ ⟨0, by omega, rfl⟩
  rintro _ R ⟨m, hm, rfl⟩ hR
  unfold F_X0_toNumber_5
  dsimp only
  have hi : (nI 8 - nI m).toInt = 8 - m := pk_sub_toInt (by omega) (by omega)
  have z0 : (0 : Int32).toInt = 0 := by decide
  constructor
  · intro c
    rw [ilt] at c
    have : m = 9 := by omega
    subst this
    rw [hT_9]
    exact h
  · intro c
    rw [ilt] at c
    have hm8 : m ≤ 8 := by omega
    rintro _ rfl _ rfl
    have e1 : nI 8 - nI m = nI (8 - m) := pk_sub hm8
    have e2 : (nI w >>> (((2 : Int32) * (nI 8 - nI m)) &&& 31)) &&& 3 = nI (dg w (8 - m)) := by
      rw [e1]; exact bits2 (by omega) (by omega)
    have e3 : (nI 8 - nI m) + (-1) = nI 8 - nI (m + 1) := by
      rcases Nat.lt_or_ge m 8 with q | q
      · rw [pk_sub hm8, pk_sub (by omega), show 8 - m = (8 - (m + 1)) + 1 by omega, pk_m1]
      · have : m = 8 := by omega
        subst this; decide
    have hi2 : (nI 8 - nI (m + 1)).toInt = 8 - (m + 1 : Nat) := pk_sub_toInt (by omega) (by omega)
    rw [e2, e3]
    refine hR _ ⟨m + 1, by omega, ?_⟩ ?_
    · simp only [hT]
      rw [show (3 : Int32) * nI (hT w m) = nI (3 * hT w m) by rw [← pk_mul]; rfl, nI_add]
    · dsimp only
      omega
