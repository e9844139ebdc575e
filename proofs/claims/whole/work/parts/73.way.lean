/-! ===== the ways by which graphs were found ===== -/
def TRE (B : BK) (out : Nat) (L : List Nd) (PC : Nat → Nat) (f1 f2 : Nat → Int32) (m : Nat) : Prop := (∀ i x, L[i]? = some x → PC i < m ∧ PC i / 8 ≤ i ∧ f1 i = nI (PC i / 8) - 1 ∧ f2 i = nI (PC i % 8) ∧ TG B out L (PC i) x) ∧ ∀ i j, i < j → j < L.length → PC i < PC j
/-- the way of a place (0: none; else the graph behind it): how many calls, and their numbers to the base of 8 -/
def DW (PC : Nat → Nat) : Nat → Nat → Nat → Prop
  | 0, w, a => a = 0 ∧ w = 0
  | n + 1, w, a => a ≠ 0 ∧ ∃ w', DW PC n w' (PC (a - 1) / 8) ∧ w = 8 * w' + PC (a - 1) % 8
/-- the k-th graph is that of a way of n calls, by their numbers w -/
def WY (B : BK) (L : List Nd) : Nat → Nat → Nat → Prop
  | 0, _, _ => False
  | n + 1, w, k => (n = 0 ∧ w < bN B ∧ L[k]? = some (bs B w)) ∨ ∃ v c j y, WY B L n v j ∧ L[j]? = some y ∧ c < bN B ∧ bf B c = y.2.1 ∧ w = 8 * v + c ∧ L[k]? = some (st1 B y c)
/-- all calls of the way are of the set -/
def CH (PC : Nat → Nat) (S : Nat) : Nat → Nat → Prop
  | 0, a => a = 0
  | n + 1, a => a ≠ 0 ∧ S / 2 ^ (PC (a - 1) % 8) % 2 = 1 ∧ CH PC S n (PC (a - 1) / 8)
theorem sub1i {a : Nat} (ha : a < 2 ^ 30) : (nI a - (1 : Int32)).toInt = (a : Int) - 1 := pk_sub_toInt (b := 1) ha (by decide)
section WAY
variable {B : BK} {out m : Nat} {L : List Nd} {PC : Nat → Nat} {f1 f2 : Nat → Int32}
theorem TRE.le (h : TRE B out L PC f1 f2 m) {a : Nat} (h0 : a ≠ 0) (ha : a ≤ L.length) : PC (a - 1) / 8 ≤ a - 1 := (h.1 (a - 1) _ (List.getElem?_eq_getElem (by omega))).2.1
theorem DW_ex (h : TRE B out L PC f1 f2 m) : ∀ a, a ≤ L.length → ∃ n w, n ≤ a ∧ DW PC n w a := by
  intro a
  induction a using Nat.strongRecOn with
  | _ a ih =>
    intro ha
    by_cases h0 : a = 0
    · exact ⟨0, 0, by omega, h0, rfl⟩
    · have hl := h.le h0 ha
      obtain ⟨n, w, h1, h2⟩ := ih (PC (a - 1) / 8) (by omega) (by omega)
      exact ⟨n + 1, _, by omega, h0, w, h2, rfl⟩
theorem DW_uni : ∀ n n' w w' a, DW PC n w a → DW PC n' w' a → n = n' ∧ w = w' := by
  intro n
  induction n with
  | zero =>
    intro n' w w' a h h'
    cases n' with
    | zero => exact ⟨rfl, h.2.trans h'.2.symm⟩
    | succ n' => exact absurd h.1 h'.1
  | succ n ih =>
    intro n' w w' a h h'
    cases n' with
    | zero => exact absurd h'.1 h.1
    | succ n' =>
      obtain ⟨_, v, g1, g2⟩ := h
      obtain ⟨_, v', g1', g2'⟩ := h'
      obtain ⟨e1, e2⟩ := ih n' v v' _ g1 g1'
      exact ⟨by omega, by rw [g2, g2', e2]⟩
theorem DW_lt (h : TRE B out L PC f1 f2 m) : ∀ n n' w w' a b, a < b → b ≤ L.length → DW PC n w a → DW PC n' w' b → n < n' ∨ (n = n' ∧ w < w') := by
  intro n
  induction n with
  | zero =>
    intro n' w w' a b hab hb h1 h2
    cases n' with
    | zero => exact absurd h2.1 (by omega)
    | succ n' => exact Or.inl (by omega)
  | succ n ih =>
    intro n' w w' a b hab hb h1 h2
    obtain ⟨a0, v, g1, g2⟩ := h1
    cases n' with
    | zero => exact absurd h2.1 (by omega)
    | succ n' =>
      obtain ⟨b0, v', g1', g2'⟩ := h2
      have hp := h.2 (a - 1) (b - 1) (by omega) (by omega)
      have hl := h.le b0 hb
      rcases Nat.lt_or_ge (PC (a - 1) / 8) (PC (b - 1) / 8) with q | q
      · rcases ih n' v v' _ _ q (by omega) g1 g1' with z | ⟨z1, z2⟩
        · exact Or.inl (by omega)
        · exact Or.inr ⟨by omega, by omega⟩
      · have e : PC (a - 1) / 8 = PC (b - 1) / 8 := by omega
        rw [e] at g1
        obtain ⟨e1, e2⟩ := DW_uni n n' v v' _ g1 g1'
        exact Or.inr ⟨by omega, by omega⟩
theorem DW_8 : ∀ n w a, DW PC n w a → w < 8 ^ n := by
  intro n
  induction n with
  | zero => intro w a h; rw [h.2]; decide
  | succ n ih =>
    intro w a h
    obtain ⟨_, v, g1, g2⟩ := h
    have := ih v _ g1
    rw [Nat.pow_succ]; omega
theorem WY_8 (hN : bN B ≤ 8) : ∀ n w k, WY B L n w k → w < 8 ^ n := by
  intro n
  induction n with
  | zero => intro w k h; exact h.elim
  | succ n ih =>
    intro w k h
    rcases h with ⟨e, h1, h2⟩ | ⟨v, c, j, y, h1, h2, h3, h4, h5, h6⟩
    · subst e
      show w < 8 ^ (0 + 1)
      omega
    · have := ih v j h1
      rw [Nat.pow_succ]; omega
theorem DW_WY (h : TRE B 0 L PC f1 f2 m) : ∀ n w a, a ≤ L.length → a ≠ 0 → DW PC n w a → WY B L n w (a - 1) := by
  intro n
  induction n with
  | zero => intro w a _ h0 hd; exact absurd hd.1 h0
  | succ n ih =>
    intro w a ha h0 hd
    obtain ⟨_, v, g1, g2⟩ := hd
    obtain ⟨x, hx⟩ : ∃ x, L[a - 1]? = some x := ⟨_, List.getElem?_eq_getElem (by omega)⟩
    obtain ⟨t1, t2, -, -, ⟨t5, -⟩, t6⟩ := h.1 (a - 1) x hx
    rcases t6 with ⟨q1, q2⟩ | ⟨p, y, q1, q2, q3, q4⟩
    · rw [q1] at g1
      obtain ⟨hn, hv⟩ := DW_uni n 0 v 0 0 g1 ⟨rfl, rfl⟩
      have ew : w = PC (a - 1) % 8 := by omega
      exact Or.inl ⟨hn, by rw [ew]; exact t5, by rw [hx, q2, ew]⟩
    · have hp := (List.getElem?_eq_some_iff.mp q2).1
      rw [q1] at g1
      have hw := ih v (p + 1) (by omega) (by omega) g1
      exact Or.inr ⟨v, PC (a - 1) % 8, p, y, hw, q2, t5, q3, g2, by rw [hx, q4]⟩
theorem nd_ix (hnd : L.Nodup) {i j : Nat} {x : Nd} (hi : L[i]? = some x) (hj : L[j]? = some x) : i = j := (List.getElem?_inj (List.getElem?_eq_some_iff.mp hi).1 hnd).mp (hi.trans hj.symm)
theorem inn0 {c : Nat} (h : c < bN B) : inn B 0 c := ⟨h, by rw [Nat.zero_div]; decide⟩
theorem WY_ge (h : TRE B 0 L PC f1 f2 m) (h3 : ∀ q x, q < 8 * (L.length + 1) → TG B 0 L q x → ∃ i, L[i]? = some x ∧ PC i ≤ q) (hN : bN B ≤ 8) (hnd : L.Nodup) : ∀ n w k, WY B L n w k → ∀ n' w', DW PC n' w' (k + 1) → n' < n ∨ (n' = n ∧ w' ≤ w) := by
  intro n
  induction n with
  | zero => intro w k h; exact h.elim
  | succ n ih =>
    intro w k hW n' w' hd
    cases n' with
    | zero => exact absurd hd.1 (by omega)
    | succ n' =>
      obtain ⟨-, v', g1, g2⟩ := hd
      rw [Nat.add_sub_cancel] at g1 g2
      rcases hW with ⟨e, h1, h2⟩ | ⟨v, c, j, y, h1, h2, h4, h5, h6, h7⟩
      · have hT : TG B 0 L w (bs B w) := ⟨by rw [show w % 8 = w by omega]; exact inn0 h1, Or.inl ⟨by omega, by rw [show w % 8 = w by omega]⟩⟩
        obtain ⟨i, hi, hle⟩ := h3 w _ (by omega) hT
        have := nd_ix hnd hi h2
        subst this
        rw [show PC i / 8 = 0 by omega] at g1
        obtain ⟨e1, e2⟩ := DW_uni n' 0 v' 0 0 g1 ⟨rfl, rfl⟩
        exact Or.inr ⟨by omega, by omega⟩
      · have hjl := (List.getElem?_eq_some_iff.mp h2).1
        have hkl := (List.getElem?_eq_some_iff.mp h7).1
        have em : (8 * (j + 1) + c) % 8 = c := by omega
        have ed : (8 * (j + 1) + c) / 8 = j + 1 := by omega
        have hT : TG B 0 L (8 * (j + 1) + c) (st1 B y c) := ⟨by rw [em]; exact inn0 h4, Or.inr ⟨j, y, ed, h2, by rw [em]; exact h5, by rw [em]⟩⟩
        obtain ⟨i, hi, hle⟩ := h3 _ _ (by omega) hT
        have := nd_ix hnd hi h7
        subst this
        obtain ⟨n1, w1, -, hd1⟩ := DW_ex h (j + 1) (by omega)
        have hih := ih v j h1 n1 w1 hd1
        rcases Nat.lt_or_ge (PC i / 8) (j + 1) with q | q
        · rcases DW_lt h n' n1 v' w1 _ _ q (by omega) g1 hd1 with z | ⟨z1, z2⟩
          · exact Or.inl (by omega)
          · rcases hih with z | ⟨z3, z4⟩
            · exact Or.inl (by omega)
            · exact Or.inr ⟨by omega, by omega⟩
        · rw [show PC i / 8 = j + 1 by omega] at g1
          obtain ⟨e1, e2⟩ := DW_uni n' n1 v' w1 _ g1 hd1
          rcases hih with z | ⟨z3, z4⟩
          · exact Or.inl (by omega)
          · exact Or.inr ⟨by omega, by omega⟩
theorem CH_WG (h : TRE B out L PC f1 f2 m) {S : Nat} : ∀ n a, a ≤ L.length → CH PC S (n + 1) a → ∃ x, L[a - 1]? = some x ∧ WG B S n x := by
  intro n
  induction n with
  | zero =>
    intro a ha hc
    obtain ⟨h0, h1, h2⟩ := hc
    obtain ⟨x, hx⟩ : ∃ x, L[a - 1]? = some x := ⟨_, List.getElem?_eq_getElem (by omega)⟩
    obtain ⟨t1, t2, -, -, ⟨t5, -⟩, t6⟩ := h.1 (a - 1) x hx
    have h2' : PC (a - 1) / 8 = 0 := h2
    rcases t6 with ⟨q1, q2⟩ | ⟨p, y, q1, q2, q3, q4⟩
    · exact ⟨x, hx, _, t5, h1, q2⟩
    · omega
  | succ n ih =>
    intro a ha hc
    obtain ⟨h0, h1, h2⟩ := hc
    obtain ⟨x, hx⟩ : ∃ x, L[a - 1]? = some x := ⟨_, List.getElem?_eq_getElem (by omega)⟩
    obtain ⟨t1, t2, -, -, ⟨t5, -⟩, t6⟩ := h.1 (a - 1) x hx
    rcases t6 with ⟨q1, q2⟩ | ⟨p, y, q1, q2, q3, q4⟩
    · rw [q1] at h2
      exact absurd rfl h2.1
    · have hp := (List.getElem?_eq_some_iff.mp q2).1
      rw [q1] at h2
      obtain ⟨z, hz, hw⟩ := ih (p + 1) (by omega) h2
      rw [Nat.add_sub_cancel, q2] at hz
      cases hz
      exact ⟨x, hx, y, _, hw, t5, h1, q3, q4⟩
theorem orc_ok : ∀ b, b < 256 → ∀ a, a < 8 → nI b ||| ((1 : Int32) <<< (nI a &&& 31)) = nI (b ||| 2 ^ a) ∧ b ||| 2 ^ a < 256 ∧ ∀ c, c < 8 → ((b ||| 2 ^ a) / 2 ^ c % 2 = 1 ↔ b / 2 ^ c % 2 = 1 ∨ a = c) := by decide +kernel
variable {sK : St}
theorem sp_wayLen (h7 : sK 7 0 = nI L.length) (hl : L.length ≤ 1000) (h : TRE B out L PC (sK 1) (sK 2) m) {a n w : Nat} (ha : a ≤ L.length) (hd : DW PC n w a) (hn : n ≤ 1000) {K : Int32 → Prop} (hK : K (nI n)) : wp_X2_wayLength sK (nI a - 1) K := by
  unfold wp_X2_wayLength
  refine lp_ind (fun q => ∃ b j v, b ≤ L.length ∧ DW PC j v b ∧ j ≤ n ∧ q = (nI (n - j), nI b - 1)) (fun q => (q.2.toInt + 1).toNat) ?_ _ ⟨a, n, w, ha, hd, Nat.le_refl _, by rw [Nat.sub_self]; rfl⟩
  rintro _ R ⟨b, j, v, hb, hd, hj, rfl⟩ hR
  unfold F_X2_wayLength_4
  dsimp only at hR ⊢
  have hi : (nI b - (1 : Int32)).toInt = (b : Int) - 1 := sub1i (by omega)
  have z0 : (0 : Int32).toInt = 0 := by decide
  rw [hi] at hR
  constructor
  · intro c
    rw [ilt] at c
    have : b = 0 := by omega
    subst this
    have : j = 0 := (DW_uni j 0 v 0 0 hd ⟨rfl, rfl⟩).1
    subst this
    exact hK
  · intro c
    rw [ilt] at c
    have hb0 : b ≠ 0 := by omega
    cases j with
    | zero => exact absurd hd.1 hb0
    | succ j =>
      obtain ⟨-, v', g1, g2⟩ := hd
      have hle := h.le hb0 hb
      obtain ⟨x, hx⟩ : ∃ x, L[b - 1]? = some x := ⟨_, List.getElem?_eq_getElem (by omega)⟩
      have e1 := (h.1 (b - 1) x hx).2.2.1
      rw [nI_sub1 (by omega), h7]
      refine ⟨fun c2 => ?_, fun _ => ⟨fun c3 => ?_, fun _ => ?_⟩⟩
      · have := le3 (y := b - 1) (b := L.length) (by omega) (by omega) c2
        omega
      · have := le3 (y := n - (j + 1)) (b := 1000) (by omega) (by omega) c3
        omega
      · rintro _ rfl
        refine ⟨vp_in_nI (by omega) (by decide), ?_⟩
        rintro _ rfl
        rw [nI_clamp (by omega), e1, nI_1, show n - (j + 1) + 1 = n - j by omega]
        refine hR _ ⟨PC (b - 1) / 8, j, v', by omega, g1, by omega, rfl⟩ ?_
        dsimp only
        rw [sub1i (by omega)]
        omega
theorem sp_callOn (h7 : sK 7 0 = nI L.length) (hl : L.length ≤ 1000) (h : TRE B out L PC (sK 1) (sK 2) m) {a n w k : Nat} (ha : a ≤ L.length) (hd : DW PC n w a) (hn : n ≤ 1000) (hk : k < n) {K : Int32 → Prop} (hK : K (nI (w / 8 ^ (n - 1 - k) % 8))) : wp_X2_callOnWay sK (nI a - 1) (nI k) K := by
  unfold wp_X2_callOnWay
  refine sp_wayLen h7 hl h ha hd hn ?_
  rintro _ rfl
  rw [nI_sub1 (n := n) (by omega), pk_sub (by omega)]
  refine lp_ind (fun q => ∃ b j v, b ≤ L.length ∧ DW PC j v b ∧ k < j ∧ j ≤ n ∧ v = w / 8 ^ (n - j) ∧ q = (nI b - 1, nI (j - 1 - k))) (fun q => q.2.toNatClampNeg) ?_ _ ⟨a, n, w, ha, hd, hk, Nat.le_refl _, by rw [Nat.sub_self, Nat.pow_zero, Nat.div_one], rfl⟩
  rintro _ R ⟨b, j, v, hb, hd, hkj, hj, ev, rfl⟩ hR
  unfold F_X2_callOnWay_13
  dsimp only at hR ⊢
  cases j with
  | zero => omega
  | succ j =>
    obtain ⟨hb0, v', g1, g2⟩ := hd
    have hle := h.le hb0 hb
    obtain ⟨x, hx⟩ : ∃ x, L[b - 1]? = some x := ⟨_, List.getElem?_eq_getElem (by omega)⟩
    obtain ⟨-, -, e1, e2, -⟩ := h.1 (b - 1) x hx
    rw [nI_sub1 (by omega), nIle0 (by omega), h7]
    constructor
    · intro c
      unfold J_X2_callOnWay_43
      rw [h7]
      refine ⟨fun z => absurd z (nI_pos (by omega)), fun _ => ⟨fun z => ?_, fun _ => ⟨vp_in_nI (by omega) (by decide), ?_⟩⟩⟩
      · have := le3 (y := b - 1) (b := L.length) (by omega) (by omega) z
        omega
      · rw [nI_clamp (by omega), e2]
        have e3 : w / 8 ^ (n - 1 - k) % 8 = PC (b - 1) % 8 := by
          rw [show n - 1 - k = n - (j + 1) by omega, ← ev, g2]; omega
        rw [← e3]
        exact hK
    · intro c
      refine ⟨fun z => absurd z (nI_pos (by omega)), fun _ => ⟨fun z => ?_, fun _ => ⟨vp_in_nI (by omega) (by decide), ?_⟩⟩⟩
      · have := le3 (y := b - 1) (b := L.length) (by omega) (by omega) z
        omega
      · rintro _ rfl _ rfl
        rw [nI_clamp (by omega), e1, show j + 1 - 1 - k = (j - 1 - k) + 1 by omega, pk_m1]
        refine hR _ ⟨PC (b - 1) / 8, j, v', by omega, g1, by omega, by omega, ?_, rfl⟩ ?_
        · have e4 : v' = v / 8 := by omega
          rw [e4, ev, Nat.div_div_eq_div_mul, ← Nat.pow_succ, show (n - (j + 1)).succ = n - j by omega]
        · dsimp only
          rw [nI_clamp (by omega), nI_clamp (by omega)]
          omega
theorem sp_callsOn (h7 : sK 7 0 = nI L.length) (hl : L.length ≤ 1000) (h : TRE B out L PC (sK 1) (sK 2) m) {a n w : Nat} (ha : a ≤ L.length) (hd : DW PC n w a) (hn : n ≤ 1000) {K : Int32 → Prop} (hK : ∀ S, S < 256 → CH PC S n a → K (nI S)) : wp_X2_callsOnWay sK (nI a - 1) K := by
  unfold wp_X2_callsOnWay
  refine lp_ind (fun q => ∃ b j v acc, b ≤ L.length ∧ DW PC j v b ∧ j ≤ n ∧ acc < 256 ∧ (∀ S, (∀ c, c < 8 → acc / 2 ^ c % 2 = 1 → S / 2 ^ c % 2 = 1) → CH PC S j b → CH PC S n a) ∧ q = (nI acc, nI (n - j), nI b - 1)) (fun q => (q.2.2.toInt + 1).toNat) ?_ _ ⟨a, n, w, 0, ha, hd, Nat.le_refl _, by decide, fun S _ h => h, by rw [Nat.sub_self]; rfl⟩
  rintro _ R ⟨b, j, v, acc, hb, hd, hj, hacc, hS, rfl⟩ hR
  unfold F_X2_callsOnWay_7
  dsimp only at hR ⊢
  have hi : (nI b - (1 : Int32)).toInt = (b : Int) - 1 := sub1i (by omega)
  have z0 : (0 : Int32).toInt = 0 := by decide
  rw [hi] at hR
  constructor
  · intro c
    rw [ilt] at c
    have : b = 0 := by omega
    subst this
    have : j = 0 := (DW_uni j 0 v 0 0 hd ⟨rfl, rfl⟩).1
    subst this
    exact hK acc hacc (hS acc (fun _ _ h => h) rfl)
  · intro c
    rw [ilt] at c
    have hb0 : b ≠ 0 := by omega
    cases j with
    | zero => exact absurd hd.1 hb0
    | succ j =>
      obtain ⟨-, v', g1, g2⟩ := hd
      have hle := h.le hb0 hb
      obtain ⟨x, hx⟩ : ∃ x, L[b - 1]? = some x := ⟨_, List.getElem?_eq_getElem (by omega)⟩
      obtain ⟨-, -, e1, e2, -⟩ := h.1 (b - 1) x hx
      have iv : vp_in (nI (b - 1)) 1000 := vp_in_nI (by omega) (by decide)
      rw [nI_sub1 (by omega), h7]
      refine ⟨fun c2 => ?_, fun _ => ⟨fun c3 => ?_, fun _ => ⟨iv, ?_⟩⟩⟩
      · have := le3 (y := b - 1) (b := L.length) (by omega) (by omega) c2
        omega
      · have := le3 (y := n - (j + 1)) (b := 1000) (by omega) (by omega) c3
        omega
      · rintro _ rfl _ rfl
        refine ⟨iv, ?_⟩
        rintro _ rfl
        obtain ⟨o1, o2, o3⟩ := orc_ok acc hacc (PC (b - 1) % 8) (by omega)
        rw [nI_clamp (by omega), e1, e2, o1, nI_1, show n - (j + 1) + 1 = n - j by omega]
        refine hR _ ⟨PC (b - 1) / 8, j, v', acc ||| 2 ^ (PC (b - 1) % 8), by omega, g1, by omega, o2, fun S hs hch => ?_, rfl⟩ ?_
        · refine hS S (fun c hc hb => hs c hc ((o3 c hc).mpr (Or.inl hb))) ⟨hb0, hs _ (by omega) ((o3 _ (by omega)).mpr (Or.inr rfl)), hch⟩
        · dsimp only
          rw [sub1i (by omega)]
          omega
end WAY
theorem TREE.tre {B : BK} {out : Nat} {S : SG} {f1 f2 : Nat → Int32} {m : Nat} (h : TREE B out S f1 f2 m) : ∃ PC, TRE B out S.1 PC f1 f2 m ∧ (S.2 = false → ∀ q x, q < m → TG B out S.1 q x → ∃ i, S.1[i]? = some x ∧ PC i ≤ q) := by
  obtain ⟨PC, h1, h2, h3⟩ := h
  exact ⟨PC, ⟨h1, h2⟩, h3⟩
