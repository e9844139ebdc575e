/-! ===== reading: how class and model stand side by side ===== -/
theorem mk6 (k : Nat) : mkI (k + 6) = 5 := by
  unfold mkI
  rw [if_neg (by omega), if_neg (by omega), if_neg (by omega), if_neg (by omega), if_neg (by omega), if_neg (by omega)]
theorem mk_all {P : Nat → Prop} (h0 : P 0) (h1 : P 1) (h2 : P 2) (h3 : P 3) (h4 : P 4) (h5 : P 5) (h6 : ∀ k, P (k + 6)) : ∀ k, P k := by
  intro k
  match k with
  | 0 => exact h0
  | 1 => exact h1
  | 2 => exact h2
  | 3 => exact h3
  | 4 => exact h4
  | 5 => exact h5
  | k + 6 => exact h6 k
theorem mkI_0 : ∀ k, mkI k = 0 ↔ k = 1 := mk_all (by decide) (by decide) (by decide) (by decide) (by decide) (by decide) (fun k => by rw [mk6]; exact ⟨fun z => absurd z (by decide), fun z => by omega⟩)
theorem mkI_1 : ∀ k, mkI k = 1 ↔ k = 2 := mk_all (by decide) (by decide) (by decide) (by decide) (by decide) (by decide) (fun k => by rw [mk6]; exact ⟨fun z => absurd z (by decide), fun z => by omega⟩)
theorem mkI_2 : ∀ k, mkI k = 2 ↔ k = 3 := mk_all (by decide) (by decide) (by decide) (by decide) (by decide) (by decide) (fun k => by rw [mk6]; exact ⟨fun z => absurd z (by decide), fun z => by omega⟩)
theorem mkI_3 : ∀ k, mkI k = 3 ↔ k = 4 := mk_all (by decide) (by decide) (by decide) (by decide) (by decide) (by decide) (fun k => by rw [mk6]; exact ⟨fun z => absurd z (by decide), fun z => by omega⟩)
theorem mkI_4 : ∀ k, mkI k = 4 ↔ k = 5 := mk_all (by decide) (by decide) (by decide) (by decide) (by decide) (by decide) (fun k => by rw [mk6]; exact ⟨fun z => absurd z (by decide), fun z => by omega⟩)
theorem mkI_5 : ∀ k, mkI k = 5 ↔ 6 ≤ k := mk_all (by decide) (by decide) (by decide) (by decide) (by decide) (by decide) (fun k => by rw [mk6]; exact ⟨fun _ => by omega, fun _ => rfl⟩)
section TKL
variable {n p k v st bh : Nat} {tx : Nat → Nat}
theorem TK.k8 (h : TK n tx p k v st bh) : k ≤ 8 := by
  obtain ⟨-, -, -, -, -, h⟩ := h
  rcases h with ⟨h1, h2, h3⟩ | ⟨h1, h2, h⟩
  · omega
  · rcases h with ⟨f1, -⟩ | ⟨f1, -⟩ | ⟨f1, -⟩ | ⟨f1, -⟩ | ⟨f1, -⟩ | ⟨-, -, -, ⟨f1, -⟩ | ⟨f1, -⟩ | ⟨f1, -⟩⟩ | ⟨f1, -⟩ | ⟨f1, -⟩ <;> omega
theorem TK.v4 (h : TK n tx p k v st bh) (hk : k = 4) : v < 4 := by
  obtain ⟨-, -, -, -, -, h⟩ := h
  rcases h with ⟨h1, h2, h3⟩ | ⟨h1, h2, h⟩
  · omega
  · rcases h with ⟨f1, f2, -⟩ | ⟨f1, -⟩ | ⟨f1, -⟩ | ⟨f1, -⟩ | ⟨f1, -⟩ | ⟨-, -, -, ⟨f1, -⟩ | ⟨f1, -⟩ | ⟨f1, -⟩⟩ | ⟨f1, -⟩ | ⟨f1, -⟩ <;> omega
theorem TK.v5 (h : TK n tx p k v st bh) (hk : k = 5) : v < 10 := by
  obtain ⟨-, -, -, -, -, h⟩ := h
  rcases h with ⟨h1, h2, h3⟩ | ⟨h1, h2, h⟩
  · omega
  · rcases h with ⟨f1, -⟩ | ⟨f1, -⟩ | ⟨f1, -⟩ | ⟨f1, -⟩ | ⟨f1, f2, -⟩ | ⟨-, -, -, ⟨f1, -⟩ | ⟨f1, -⟩ | ⟨f1, -⟩⟩ | ⟨f1, -⟩ | ⟨f1, -⟩ <;> omega
theorem TK.lt (h : TK n tx p k v st bh) (hk : k ≠ 1) : st < n ∧ st < bh := by
  obtain ⟨-, -, -, -, -, h⟩ := h
  rcases h with ⟨h1, h2, h3⟩ | ⟨h1, h2, h⟩
  · exact absurd h2 hk
  · exact ⟨h1, h2⟩
theorem TK.end1 (h : TK n tx p k v st bh) (hs : n ≤ st) : k = 1 := by
  obtain ⟨-, -, -, -, -, h⟩ := h
  rcases h with ⟨h1, h2, h3⟩ | ⟨h1, h2, h⟩
  · exact h2
  · omega
end TKL
/-- what is read, in the model -/
def RMr (s : St) (B : BK) (tm it : Nat) : Prop := s 17 0 = nI (bN B) ∧ (∀ a, a < 4 → s 15 a = nI (bp B a) ∧ s 16 a = nI (tm / 2 ^ a % 2)) ∧ (∀ c, c < bN B → s 18 c = nI (bf B c) ∧ s 19 c = nI (bt B c) ∧ ∀ k, k < 9 → s 20 (9 * c + k) = nI (dg (ba B c) k)) ∧ s 21 0 = nI it
def FRD (sS s : St) : Prop := ∀ q, (q < 12 ∨ 21 < q) → s q = sS q
/-- the model ahead of a token, and behind it -/
def MP (sS : St) (n : Nat) (tx : Nat → Nat) (B : BK) (tm it p : Nat) (s : St) : Prop := MTx s n tx ∧ RMr s B tm it ∧ FRD sS s ∧ s 12 0 = nI p
def MS (sS : St) (n : Nat) (tx : Nat → Nat) (B : BK) (tm it k v st bh : Nat) (s : St) : Prop := MTx s n tx ∧ RMr s B tm it ∧ FRD sS s ∧ s 13 0 = nI st ∧ (k ≠ 0 → s 12 0 = nI bh) ∧ WR k v (s 14 0)
/-- the class behind a token, and ahead of the next -/
def RC (n : Nat) (tx : Nat → Nat) (tm k v st bh : Nat) (sT : St) : Prop := CTx sT n tx ∧ sT 2 0 = nI st ∧ sT 3 0 = nI k ∧ sT 4 0 = nI v ∧ sT 5 0 = nI bh ∧ sT 6 0 = nI tm ∧ sT 7 0 = -1
/-- the class at a fault -/
def FLT (n : Nat) (tx : Nat → Nat) (f : Nat) (sT : St) : Prop := CTx sT n tx ∧ sT 7 0 = nI f
theorem RMr.fr {s s' : St} {B : BK} {tm it : Nat} (h : RMr s B tm it) (e : ∀ q, 15 ≤ q → q ≤ 21 → s' q = s q) : RMr s' B tm it := by
  unfold RMr at *
  rw [e 15 (by decide) (by decide), e 16 (by decide) (by decide), e 17 (by decide) (by decide), e 18 (by decide) (by decide), e 19 (by decide) (by decide), e 20 (by decide) (by decide), e 21 (by decide) (by decide)]
  exact h
section RD
variable {sS : St} {sL : Int64} {n : Nat} {tx : Nat → Nat} {B : BK} {tm it p k v st bh : Nat}
theorem MS.mp {s : St} (h : MS sS n tx B tm it k v st bh s) (hk : k ≠ 0) : MP sS n tx B tm it bh s := ⟨h.1, h.2.1, h.2.2.1, h.2.2.2.2.1 hk⟩
theorem tokR {s : St} (h : MP sS n tx B tm it p s) (hT : TK n tx p k v st bh) {K : Int32 → St → Prop} (hK : ∀ s', MS sS n tx B tm it k v st bh s' → K (mkI k) s') : wp_X10_token s sL K := by
  obtain ⟨h1, h2, h3, h4⟩ := h
  refine sp_token h1 h4 hT (fun s' a1 a2 a3 a4 => hK s' ⟨?_, ?_, ?_, a1, a2, a3⟩)
  · exact h1.fr (a4 0 (by decide) (by decide) (by decide)) (a4 1 (by decide) (by decide) (by decide))
  · exact h2.fr (fun q q1 q2 => a4 q (by omega) (by omega) (by omega))
  · exact fun q hq => (a4 q (by omega) (by omega) (by omega)).trans (h3 q hq)
theorem numR {s : St} (h : MP sS n tx B tm it p s) (hT : TK n tx p k v st bh) {m : Int32} {K : Int32 → St → Prop} (h1 : k = 5 → ¬ m < nI v → ∀ s', MS sS n tx B tm it k v st bh s' → K 1 s') (h0 : (k = 5 → m < nI v) → ∀ s', MS sS n tx B tm it k v st bh s' → K 0 s') : wp_X10_number s sL m K := by
  unfold wp_X10_number
  refine tokR h hT (fun s' hs => ?_)
  rw [mkI_4]
  refine ⟨fun e => ?_, fun e => h0 (fun z => absurd z e) s' hs⟩
  rw [hs.2.2.2.2.2.1 (Or.inr e)]
  exact ⟨fun c => h0 (fun _ => c) s' hs, fun c => h1 e c s' hs⟩
theorem signR {s : St} (h : MP sS n tx B tm it p s) (hT : TK n tx p k v st bh) {K : Int32 → St → Prop} (h1 : k = 8 → ∀ s', MS sS n tx B tm it k v st bh s' → K 1 s') (h0 : k ≠ 8 → ∀ s', MS sS n tx B tm it k v st bh s' → K 0 s') : wp_X10_sign s sL (59 : Int32) K := by
  unfold wp_X10_sign
  refine tokR h hT (fun s' hs => ?_)
  have hk8 := hT.k8
  obtain ⟨-, w6, w7, w8⟩ := hs.2.2.2.2.2
  rw [mkI_5]
  refine ⟨fun e => ?_, fun e => h0 (by omega) s' hs⟩
  by_cases e8 : k = 8
  · rw [w8 e8]
    exact ⟨fun _ => h1 e8 s' hs, fun z => absurd rfl z⟩
  · by_cases e6 : k = 6
    · rw [w6 e6]
      exact ⟨fun z => absurd z (by decide), fun _ => h0 e8 s' hs⟩
    · rw [w7 (by omega)]
      exact ⟨fun z => absurd z (by decide), fun _ => h0 e8 s' hs⟩
theorem advR {sT : St} (hc : CTx sT n tx) (h5 : sT 5 0 = nI p) (hp : p ≤ n) (h6 : sT 6 0 = nI tm) (h7 : sT 7 0 = -1) {K : St → Prop} (h : ∀ s' k v st bh, TK n tx p k v st bh → RC n tx tm k v st bh s' → K s') : wp_X7_advance sT K := by
  refine sp_advance hc hp h5 (fun s' k v st bh a1 a2 a3 a4 a5 a6 => h s' k v st bh a1 ⟨?_, a2, a3, a4, a5, ?_, ?_⟩)
  · exact hc.fr (a6 0 (by decide) (by decide) (by decide) (by decide)) (a6 1 (by decide) (by decide) (by decide) (by decide))
  · rw [a6 6 (by decide) (by decide) (by decide) (by decide)]; exact h6
  · rw [a6 7 (by decide) (by decide) (by decide) (by decide)]; exact h7
theorem RC.adv {sT : St} (h : RC n tx tm k v st bh sT) (hb : bh ≤ n) {K : St → Prop} (hK : ∀ s' k' v' st' bh', TK n tx bh k' v' st' bh' → RC n tx tm k' v' st' bh' s' → K s') : wp_X7_advance sT K := advR h.1 h.2.2.2.2.1 hb h.2.2.2.2.2.1 h.2.2.2.2.2.2 hK
theorem standR {sT : St} (h : RC n tx tm k v st bh sT) {b : Bool} {K : Int32 → St → Prop} (h1 : b = true → K 1 sT) (h0 : b = false → ∀ s', FLT n tx st s' → K 0 s') : wp_X7_stands sT (bi b) K := by
  unfold wp_X7_stands
  cases b with
  | true => exact ⟨fun z => absurd z (by decide), fun _ => ⟨zb_1, h1 rfl⟩⟩
  | false =>
    refine ⟨fun _ => ?_, fun z => absurd rfl z⟩
    rintro _ rfl
    refine ⟨zb_0, h0 rfl _ ⟨h.1.fr (us_n (by decide)) (us_n (by decide)), ?_⟩⟩
    rw [us_s, h.2.1]
end RD
