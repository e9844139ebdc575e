/-! ===== the pure half: numbers, digits, words of arcs ===== -/
theorem nI_or (a b : Nat) : nI a ||| nI b = nI (a ||| b) := by
  apply Int32.toBitVec_inj.mp
  simp [nI, Int32.toBitVec_or, BitVec.ofNat_or]
theorem nI_and (a b : Nat) : nI a &&& nI b = nI (a &&& b) := by
  apply Int32.toBitVec_inj.mp
  simp [nI, Int32.toBitVec_and, BitVec.ofNat_and]
def dg (w i : Nat) : Nat := w / 4 ^ i % 4
def h4 (d : Nat → Nat) : Nat := d 0 + 4 * (d 1 + 4 * (d 2 + 4 * (d 3 + 4 * (d 4 + 4 * (d 5 + 4 * (d 6 + 4 * (d 7 + 4 * d 8)))))))
def h3 (d : Nat → Nat) : Nat := d 0 + 3 * (d 1 + 3 * (d 2 + 3 * (d 3 + 3 * (d 4 + 3 * (d 5 + 3 * (d 6 + 3 * (d 7 + 3 * d 8)))))))
/-- a word of arcs: nine pairs of bits, none 3 -/
def GW (w : Nat) : Prop := w < 262144 ∧ ∀ i, i < 9 → dg w i ≤ 2
/-- its number to the base of 3 -/
def gn (w : Nat) : Nat := h3 (dg w)
theorem all9 {P : Nat → Prop} (h0 : P 0) (h1 : P 1) (h2 : P 2) (h3 : P 3) (h4 : P 4) (h5 : P 5) (h6 : P 6) (h7 : P 7) (h8 : P 8) : ∀ i, i < 9 → P i := by
  intro i hi
  match i, hi with
  | 0, _ => exact h0
  | 1, _ => exact h1
  | 2, _ => exact h2
  | 3, _ => exact h3
  | 4, _ => exact h4
  | 5, _ => exact h5
  | 6, _ => exact h6
  | 7, _ => exact h7
  | 8, _ => exact h8
  | i + 9, h => exact absurd h (by omega)
theorem all3 {P : Nat → Prop} (h0 : P 0) (h1 : P 1) (h2 : P 2) : ∀ i, i < 3 → P i := by
  intro i hi
  match i, hi with
  | 0, _ => exact h0
  | 1, _ => exact h1
  | 2, _ => exact h2
  | i + 3, h => exact absurd h (by omega)
theorem dg_h4 {d : Nat → Nat} (hd : ∀ i, i < 9 → d i < 4) : ∀ i, i < 9 → dg (h4 d) i = d i := by
  have a0 := hd 0 (by omega); have a1 := hd 1 (by omega); have a2 := hd 2 (by omega); have a3 := hd 3 (by omega); have a4 := hd 4 (by omega)
  have a5 := hd 5 (by omega); have a6 := hd 6 (by omega); have a7 := hd 7 (by omega); have a8 := hd 8 (by omega)
  apply all9 <;> (simp only [dg, h4]; omega)
theorem h4_dg {w : Nat} (hw : w < 262144) : h4 (dg w) = w := by
  simp only [dg, h4]; omega
theorem h4_lt {d : Nat → Nat} (hd : ∀ i, i < 9 → d i < 4) : h4 d < 262144 := by
  have a0 := hd 0 (by omega); have a1 := hd 1 (by omega); have a2 := hd 2 (by omega); have a3 := hd 3 (by omega); have a4 := hd 4 (by omega)
  have a5 := hd 5 (by omega); have a6 := hd 6 (by omega); have a7 := hd 7 (by omega); have a8 := hd 8 (by omega)
  simp only [h4]; omega
theorem h3_lt {d : Nat → Nat} (hd : ∀ i, i < 9 → d i < 3) : h3 d < 19683 := by
  have a0 := hd 0 (by omega); have a1 := hd 1 (by omega); have a2 := hd 2 (by omega); have a3 := hd 3 (by omega); have a4 := hd 4 (by omega)
  have a5 := hd 5 (by omega); have a6 := hd 6 (by omega); have a7 := hd 7 (by omega); have a8 := hd 8 (by omega)
  simp only [h3]; omega
theorem dig_h3 {d : Nat → Nat} (hd : ∀ i, i < 9 → d i < 3) : ∀ i, i < 9 → h3 d / 3 ^ i % 3 = d i := by
  have a0 := hd 0 (by omega); have a1 := hd 1 (by omega); have a2 := hd 2 (by omega); have a3 := hd 3 (by omega); have a4 := hd 4 (by omega)
  have a5 := hd 5 (by omega); have a6 := hd 6 (by omega); have a7 := hd 7 (by omega); have a8 := hd 8 (by omega)
  apply all9 <;> (simp only [h3]; omega)
theorem GW.ext {u v : Nat} (hu : u < 262144) (hv : v < 262144) (h : ∀ i, i < 9 → dg u i = dg v i) : u = v := by
  rw [← h4_dg hu, ← h4_dg hv]
  simp only [h4]
  rw [h 0 (by omega), h 1 (by omega), h 2 (by omega), h 3 (by omega), h 4 (by omega), h 5 (by omega), h 6 (by omega), h 7 (by omega), h 8 (by omega)]
theorem GW.lt3 {w : Nat} (h : GW w) : ∀ i, i < 9 → dg w i < 3 := fun i hi => Nat.lt_succ_of_le (h.2 i hi)
theorem gn_dig {w : Nat} (h : GW w) : ∀ i, i < 9 → gn w / 3 ^ i % 3 = dg w i := dig_h3 h.lt3
theorem gn_lt {w : Nat} (h : GW w) : gn w < 19683 := h3_lt h.lt3
theorem gn_inj {u v : Nat} (hu : GW u) (hv : GW v) (h : gn u = gn v) : u = v := GW.ext hu.1 hv.1 (fun i hi => by rw [← gn_dig hu i hi, ← gn_dig hv i hi, h])
theorem GW_h4 {d : Nat → Nat} (hd : ∀ i, i < 9 → d i ≤ 2) : GW (h4 d) := ⟨h4_lt (fun i hi => by have := hd i hi; omega), fun i hi => by rw [dg_h4 (fun i hi => by have := hd i hi; omega) i hi]; exact hd i hi⟩
/-- the word of a number -/
def wn (n : Nat) : Nat := h4 (fun i => n / 3 ^ i % 3)
theorem wn_GW (n : Nat) : GW (wn n) := GW_h4 (fun i _ => by omega)
theorem wn_dg (n : Nat) : ∀ i, i < 9 → dg (wn n) i = n / 3 ^ i % 3 := dg_h4 (fun i _ => by omega)
theorem gn_wn {n : Nat} (h : n < 19683) : gn (wn n) = n := by
  simp only [gn, h3]
  rw [wn_dg n 0 (by omega), wn_dg n 1 (by omega), wn_dg n 2 (by omega), wn_dg n 3 (by omega), wn_dg n 4 (by omega), wn_dg n 5 (by omega), wn_dg n 6 (by omega), wn_dg n 7 (by omega), wn_dg n 8 (by omega)]
  omega
/-- two arcs put together -/
def cm (a b : Nat) : Nat := if a = 0 ∨ b = 0 then 0 else if 2 < a + b then 2 else 1
def mx (a b : Nat) : Nat := if a < b then b else a
def jd (u v i : Nat) : Nat := mx (mx (cm (dg u (3 * (i / 3))) (dg v (i % 3))) (cm (dg u (3 * (i / 3) + 1)) (dg v (3 + i % 3)))) (cm (dg u (3 * (i / 3) + 2)) (dg v (6 + i % 3)))
/-- two graphs put together -/
def jw (u v : Nat) : Nat := h4 (jd u v)
theorem cm_le (a b : Nat) : cm a b ≤ 2 := by unfold cm; split <;> (try split) <;> omega
theorem mx_le {a b c : Nat} (h1 : a ≤ c) (h2 : b ≤ c) : mx a b ≤ c := by unfold mx; split <;> assumption
theorem jd_le (u v i : Nat) : jd u v i ≤ 2 := mx_le (mx_le (cm_le _ _) (cm_le _ _)) (cm_le _ _)
theorem jw_GW (u v : Nat) : GW (jw u v) := GW_h4 (fun i _ => jd_le u v i)
theorem jw_dg (u v : Nat) : ∀ i, i < 9 → dg (jw u v) i = jd u v i := dg_h4 (fun i _ => by have := jd_le u v i; omega)
/-- six bits: three arcs from one place -/
def w6 (k : Nat) : Nat := k % 3 + 4 * (k / 3 % 3) + 16 * (k / 9 % 3)
def V6 (o : Nat) : Prop := ∃ k, k < 27 ∧ o = w6 k
theorem V6_of {o : Nat} (h : o < 64) (h0 : o % 4 ≤ 2) (h1 : o / 4 % 4 ≤ 2) (h2 : o / 16 % 4 ≤ 2) : V6 o := ⟨o % 4 + 3 * (o / 4 % 4) + 9 * (o / 16 % 4), by omega, by unfold w6; omega⟩
def ct (s o : Int32) : Int32 := if s = 1 then o else if s = 2 then ((o ||| (o >>> ((1 : Int32) &&& 31))) &&& 21) <<< ((1 : Int32) &&& 31) else 0
/-- a row of three, arc by arc -/
def cw (s o : Nat) : Nat := cm s (o % 4) + 4 * cm s (o / 4 % 4) + 16 * cm s (o / 16 % 4)
theorem ct_ok : ∀ s, s < 3 → ∀ k, k < 27 → ct (nI s) (nI (w6 k)) = nI (cw s (w6 k)) := by decide +kernel
theorem cw_V6 : ∀ s, s < 3 → ∀ k, k < 27 → (List.range 27).any (fun j => decide (cw s (w6 k) = w6 j)) = true := by decide +kernel
def mx3 (a b c : Nat) : Nat := mx (mx (a % 4) (b % 4)) (c % 4) + 4 * mx (mx (a / 4 % 4) (b / 4 % 4)) (c / 4 % 4) + 16 * mx (mx (a / 16 % 4) (b / 16 % 4)) (c / 16 % 4)
def fin6 (a : Int32) : Int32 := a &&& (((a >>> ((1 : Int32) &&& 31)) &&& 21) ^^^ (-1))
theorem fin6_ok : (List.range 27).all (fun a => (List.range 27).all (fun b => (List.range 27).all (fun c => decide (fin6 (((nI (w6 a)) ||| nI (w6 b)) ||| nI (w6 c)) = nI (mx3 (w6 a) (w6 b) (w6 c)))))) = true := by decide +kernel
