/-- the i-th byte of a long, from below -/
def byN (v : Int64) (i : Nat) : Nat := v.toBitVec.toNat / 2 ^ (8 * i) % 256
theorem byN_lt (v : Int64) (i : Nat) : byN v i < 256 := Nat.mod_lt _ (by decide)
theorem shc_ok : ∀ i, i < 8 → (((8 : Int32) * nI i).toInt64.toUInt64 &&& Int64.toUInt64 63) = UInt64.ofNat (8 * i) ∧ (UInt64.ofNat (8 * i)).toNat % 64 = 8 * i := by decide
theorem shm_ok : ∀ i, i < 8 → ((((8 : Int32) * nI i).toInt64 &&& 63).toBitVec.smod 64).toNat = 8 * i := by decide
theorem l2i_small {X : Int64} {N : Nat} (h : X.toBitVec.toNat = N) (hN : N < 2 ^ 31) : X.toInt32 = nI N := by
  have e : X = lN N := by
    apply Int64.toBitVec_inj.mp
    apply BitVec.eq_of_toNat_eq
    rw [h]
    show N = (BitVec.ofNat 64 N).toNat
    rw [BitVec.toNat_ofNat, Nat.mod_eq_of_lt (by omega)]
  rw [e, lN_i]
theorem and255 (n : Nat) : n &&& 255 = n % 256 := Nat.and_two_pow_sub_one_eq_mod n 8
theorem byC {v : Int64} {i : Nat} (hi : i < 8) : (((v.toUInt64 >>> (((8 : Int32) * nI i).toInt64.toUInt64 &&& Int64.toUInt64 63)).toInt64 &&& (255 : Int64)).toInt32) = nI (byN v i) := by
  rw [(shc_ok i hi).1]
  refine l2i_small ?_ (by have := byN_lt v i; omega)
  rw [Int64.toBitVec_and, BitVec.toNat_and]
  show (v.toUInt64 >>> UInt64.ofNat (8 * i)).toNat &&& 255 = byN v i
  rw [UInt64.toNat_shiftRight, (shc_ok i hi).2, Nat.shiftRight_eq_div_pow, and255]
  rfl
theorem ss_and (x : BitVec 64) {s : Nat} (hs : s ≤ 56) : x.sshiftRight s &&& 255#64 = (x >>> s) &&& 255#64 := by
  apply BitVec.eq_of_getLsbD_eq
  intro j hj
  simp only [BitVec.getLsbD_and, BitVec.getLsbD_sshiftRight, BitVec.getLsbD_ushiftRight]
  by_cases h8 : j < 8
  · have h1 : s + j < 64 := by omega
    have h3 : ¬ 64 ≤ j := by omega
    simp [h1, h3]
  · have h2 : (255#64).getLsbD j = false := by
      rw [BitVec.getLsbD_ofNat]
      rw [show (255 : Nat) = 2 ^ 8 - 1 from rfl, Nat.testBit_two_pow_sub_one]
      simp [h8]
    simp [h2]
theorem byM {v : Int64} {i : Nat} (hi : i < 8) : (((v >>> (((8 : Int32) * nI i).toInt64 &&& 63)) &&& (255 : Int64)).toInt32) = nI (byN v i) := by
  refine l2i_small ?_ (by have := byN_lt v i; omega)
  rw [Int64.toBitVec_and, Int64.toBitVec_shiftRight]
  show (v.toBitVec.sshiftRight ((((8 : Int32) * nI i).toInt64 &&& 63).toBitVec.smod 64).toNat &&& 255#64).toNat = byN v i
  rw [shm_ok i hi, ss_and _ (by omega), BitVec.toNat_and, BitVec.toNat_ushiftRight, Nat.shiftRight_eq_div_pow]
  show v.toBitVec.toNat / 2 ^ (8 * i) &&& 255 = _
  rw [and255]
  rfl
/-- the text: the same bytes in both -/
def TX (sT sS : St) (n : Nat) (tx : Nat → Nat) : Prop := n ≤ 300 ∧ sT 1 0 = nI n ∧ sS 0 0 = nI n ∧ ∀ j, j < n → tx j < 256 ∧ sT 0 j = nI (tx j) ∧ sS 1 j = nI (tx j)
def JX (p : Int32) : Prop := ∃ k, 1 ≤ k ∧ k ≤ 8 ∧ p = nI k
theorem JX_iff {p : Int32} : JX p ↔ 1 ≤ p.toInt ∧ p.toInt ≤ 8 := by
  constructor
  · rintro ⟨k, h1, h2, rfl⟩
    rw [nI_toInt (by omega)]; omega
  · intro h
    obtain ⟨c, hc, e⟩ := (IX_iff (n := 9) (by decide)).mpr (show 0 ≤ p.toInt ∧ p.toInt < (9 : Nat) by omega)
    refine ⟨c, ?_, by omega, e⟩
    rw [e, nI_toInt (by omega)] at h; omega
section TYPE
variable {sX sT sB sD sR sK sM sJ sV sS : St} {sW sL : Int64} {n : Nat} {tx : Nat → Nat}
/-- after m bytes -/
def atT (f g : Nat) (s0 s : St) (n k m : Nat) (v : Int64) : Prop := s g 0 = nI (n + m) ∧ (∀ j, j < n → s f j = s0 f j) ∧ (∀ j, j < m → s f (n + j) = nI (byN v (k - 1 - j))) ∧ ∀ q, q ≠ f → q ≠ g → s q = s0 q
theorem atT_step {f g : Nat} (hfg : f ≠ g) {s0' s : St} {n k m : Nat} {v : Int64} (hn : n + m < 2 ^ 31) (h : atT f g s0' s n k m v) : atT f g s0' (us (ua s f (nI (n + m)) (nI (byN v (k - 1 - m)))) g (nI (n + m + 1))) n k (m + 1) v := by
  obtain ⟨h1, h2, h3, h4⟩ := h
  refine ⟨by rw [us_s]; rfl, fun j hj => ?_, fun j hj => ?_, fun q q1 q2 => ?_⟩
  · rw [us_n hfg, ua_s, nI_clamp hn, pk_un (by omega)]; exact h2 j hj
  · rw [us_n hfg, ua_s, nI_clamp hn]
    by_cases e : j = m
    · subst e; rw [pk_us]
    · rw [pk_un (by omega)]; exact h3 j (by omega)
  · rw [us_n q2, ua_n q1]; exact h4 q q1 q2
theorem nI_dn {k m : Nat} (hm : m < k) : nI (k - 1 - m) + (-1) = nI (k - 1) - nI (m + 1) ∧ nI (k - 1) - nI m = nI (k - 1 - m) := by
  refine ⟨?_, pk_sub (by omega)⟩
  rcases Nat.lt_or_ge (m + 1) k with q | q
  · rw [pk_sub (by omega), show k - 1 - m = (k - 1 - (m + 1)) + 1 by omega, pk_m1]
  · have e1 : k - 1 - m = 0 := by omega
    have e2 : k - 1 = m := by omega
    rw [e1, e2, nI_succ]
    apply Int32.toBitVec_inj.mp
    simp only [Int32.toBitVec_sub, Int32.toBitVec_add, BitVec.sub_eq_add_neg, BitVec.neg_add, ← BitVec.add_assoc]
    rw [BitVec.add_right_neg]
    rfl
theorem sp_takeC {v : Int64} {k : Nat} (h1 : 1 ≤ k) (h8 : k ≤ 8) (hs : sT 1 0 = nI n) (hn : n + k ≤ 300) {K : Int32 → St → Prop} (h : ∀ s, atT 0 1 sT s n k k v → K 1 s) : Lp (F_X7_take_23 v K) (nI (k - 1), sT) := by
  refine lp_ind (fun q => ∃ m s, m ≤ k ∧ q = (nI (k - 1) - nI m, s) ∧ atT 0 1 sT s n k m v) (fun q => (q.1.toInt + 1).toNat) ?_ _ ⟨0, sT, by omega, by rw [show nI (k - 1) - nI 0 = nI (k - 1) from pk_sub (by omega)], hs, fun _ _ => rfl, fun j hj => absurd hj (by omega), fun _ _ _ => rfl⟩
  rintro _ R ⟨m, s, hm, rfl, ha⟩ hR
  unfold F_X7_take_23
  dsimp only
  have hi : (nI (k - 1) - nI m).toInt = ((k - 1 : Nat) : Int) - m := pk_sub_toInt (by omega) (by omega)
  have z0 : (0 : Int32).toInt = 0 := by decide
  constructor
  · intro c
    rw [ilt] at c
    have : m = k := by omega
    subst this
    exact h s ha
  · intro c
    rw [ilt] at c
    have hmk : m < k := by omega
    obtain ⟨d1, d2⟩ := nI_dn hmk
    rw [d2, ha.1, byC (by omega)]
    refine ⟨vp_in_nI (by omega) (by decide), ?_⟩
    rintro _ rfl _ rfl _ rfl
    rw [d1, ua_n (by decide), ha.1, nI_1]
    have hi2 : (nI (k - 1) - nI (m + 1)).toInt = ((k - 1 : Nat) : Int) - (m + 1 : Nat) := pk_sub_toInt (by omega) (by omega)
    refine hR _ ⟨m + 1, _, by omega, rfl, atT_step (by decide) (by omega) ha⟩ ?_
    dsimp only
    omega
theorem sp_takeM {v : Int64} {k : Nat} (h1 : 1 ≤ k) (h8 : k ≤ 8) (hs : sS 0 0 = nI n) (hn : n + k ≤ 300) {K : Int32 → St → Prop} (h : ∀ s, atT 1 0 sS s n k k v → K (nI (n + k)) s) : Lp (F_X10_type_34 v K) (nI (k - 1), sS) := by
  refine lp_ind (fun q => ∃ m s, m ≤ k ∧ q = (nI (k - 1) - nI m, s) ∧ atT 1 0 sS s n k m v) (fun q => (q.1.toInt + 1).toNat) ?_ _ ⟨0, sS, by omega, by rw [show nI (k - 1) - nI 0 = nI (k - 1) from pk_sub (by omega)], hs, fun _ _ => rfl, fun j hj => absurd hj (by omega), fun _ _ _ => rfl⟩
  rintro _ R ⟨m, s, hm, rfl, ha⟩ hR
  unfold F_X10_type_34
  dsimp only
  have hi : (nI (k - 1) - nI m).toInt = ((k - 1 : Nat) : Int) - m := pk_sub_toInt (by omega) (by omega)
  have z0 : (0 : Int32).toInt = 0 := by decide
  constructor
  · intro c
    rw [ilt] at c
    have : m = k := by omega
    subst this
    rw [ha.1]
    exact h s ha
  · intro c
    rw [ilt] at c
    have hmk : m < k := by omega
    obtain ⟨d1, d2⟩ := nI_dn hmk
    rw [d2, ha.1, byM (by omega)]
    refine ⟨vp_in_nI (by omega) (by decide), ?_⟩
    rintro _ rfl _ rfl _ rfl
    rw [d1, ua_n (by decide), ha.1, nI_1]
    have hi2 : (nI (k - 1) - nI (m + 1)).toInt = ((k - 1 : Nat) : Int) - (m + 1 : Nat) := pk_sub_toInt (by omega) (by omega)
    refine hR _ ⟨m + 1, _, by omega, rfl, atT_step (by decide) (by omega) ha⟩ ?_
    dsimp only
    omega
theorem op_type (hT : TX sT sS n tx) {v : Int64} {p : Int32} {K : Int32 → St → Int32 → St → Prop} (h : ∀ a, K a sT a sS) (hp : ∀ (n' : Nat) (tx' : Nat → Nat) (sT' sS' : St), TX sT' sS' n' tx' → (∀ q, q ≠ 1 → q ≠ 0 → sS' q = sS q) → K (nI n') sT' (nI n') sS') : wp_X9_type sX sT sB sD sR sK sM sJ sV sW v p (fun a u => wp_X10_type sS sL v p (fun a' u' => K a u a' u')) := by
  unfold wp_X9_type wp_X10_type
  obtain ⟨t1, t2, t3, t4⟩ := hT
  have z1 : (1 : Int32).toInt = 1 := by decide
  have z8 : (8 : Int32).toInt = 8 := by decide
  have hm : ∀ (X : Int32 → Prop), (JX p → X 1) → (¬ JX p → X 0) → wp_X10_in p.toInt64 (1 : Int64) (8 : Int64) X := fun X a b => by
    have y1 : (1 : Int64).toInt = 1 := by decide
    have y8 : (8 : Int64).toInt = 8 := by decide
    have zp := i2l_toInt p
    exact sp_in (fun q => a (JX_iff.mpr (by omega))) (fun q => b (fun w => q (by have := JX_iff.mp w; omega)))
  have bad : ¬ JX p → wp_X10_in p.toInt64 (1 : Int64) (8 : Int64) (fun r1 => ((r1 = 0 → K (-1) sT (-1) sS) ∧ (¬ r1 = 0 → (((sS 0 0 + p) ≤ (300 : Int32) → (∀ y4 : Int32, y4 = (p - (1 : Int32)) → (Lp (F_X10_type_34 v (fun a' u' => K (-1) sT a' u')) (y4, sS)))) ∧ (¬ (sS 0 0 + p) ≤ (300 : Int32) → K (-1) sT (-3) sS))))) := fun q => hm _ (fun z => absurd z q) (fun _ => ⟨fun _ => h _, fun e => absurd rfl e⟩)
  refine ⟨fun c => bad (fun q => ?_), fun c => ⟨fun c2 => ?_, fun c2 => bad (fun q => ?_)⟩⟩
  · have := JX_iff.mp q; rw [ilt] at c; omega
  · rw [ilt] at c; rw [ile] at c2
    have hj : JX p := JX_iff.mpr (by omega)
    have hj' := hj
    obtain ⟨k, k1, k8, rfl⟩ := hj
    unfold wp_X7_take
    rw [t2, t3, nI_add, show (300 : Int32) = nI 300 from rfl, nI_leI (by omega) (by decide)]
    refine ⟨fun z => absurd z (nI_pos (by omega)), fun _ => ⟨fun c3 => ?_, fun c3 => ⟨fun _ => hm _ (fun _ => ⟨fun e => absurd e (by decide), fun _ => ⟨fun z => absurd z c3, fun _ => h _⟩⟩) (fun z => absurd hj' z), fun e => absurd rfl e⟩⟩⟩
    rintro _ rfl
    rw [nI_sub1 k1]
    refine sp_takeC k1 k8 t2 c3 (fun s ha => ⟨fun e => absurd e (by decide), fun _ => hm _ (fun _ => ⟨fun e => absurd e (by decide), fun _ => ⟨fun _ => ?_, fun z => absurd c3 z⟩⟩) (fun z => absurd hj' z)⟩)
    rintro _ rfl
    refine sp_takeM k1 k8 t3 c3 (fun s2 hb => ?_)
    rw [ha.1]
    refine hp (n + k) (fun j => if j < n then tx j else byN v (k - 1 - (j - n))) s s2 ⟨c3, ha.1, hb.1, fun j hj => ?_⟩ (fun q q1 q2 => hb.2.2.2 q q1 q2)
    dsimp only
    by_cases e : j < n
    · rw [if_pos e, ha.2.1 j e, hb.2.1 j e]
      exact t4 j e
    · rw [if_neg e]
      have e2 : n + (j - n) = j := by omega
      have q1 := ha.2.2.1 (j - n) (by omega)
      have q2 := hb.2.2.1 (j - n) (by omega)
      rw [e2] at q1 q2
      exact ⟨byN_lt _ _, q1, q2⟩
  · have := JX_iff.mp q; rw [ile] at c2; omega
end TYPE
