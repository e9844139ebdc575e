/-! ===== the shortest BAD way: the model ===== -/
def FQ (sS s' : St) : Prop := ∀ q, q ≠ 29 → q ≠ 30 → q ≠ 31 → s' q = sS q
theorem FQ.rf {s : St} : FQ s s := fun _ _ _ _ => rfl
theorem FQ.tr {a b c : St} (h1 : FQ a b) (h2 : FQ b c) : FQ a c := fun q a1 a2 a3 => (h2 q a1 a2 a3).trans (h1 q a1 a2 a3)
theorem FQ.kp {sS s' : St} (h : FQ sS s') : KP sS s' := fun q hq => h q (by omega) (by omega) (by omega)
theorem KP.MB {sS s' : St} {B : BK} (h : KP sS s') (hM : MB sS B) : MB s' B := by
  refine ⟨by rw [h 3 (by decide)]; exact hM.1, fun a ha => by rw [h 2 (by decide)]; exact hM.2.1 a ha, fun c hc => ?_⟩
  obtain ⟨h1, h2, h3⟩ := hM.2.2 c hc
  exact ⟨by rw [h 4 (by decide)]; exact h1, by rw [h 5 (by decide)]; exact h2, fun k hk => by rw [h 6 (by decide)]; exact h3 k hk⟩
theorem KP.PW {sS s' : St} (h : KP sS s') (hp : PW sS) : PW s' := fun k hk => by rw [h 11 (by decide)]; exact hp k hk
theorem FQ.mg {sS s' : St} {L : List Nd} {t : Nat} (h : FQ sS s') (hG : MG sS L t) : MG s' L t := by
  unfold MG at *
  rw [h 22 (by decide) (by decide) (by decide), h 23 (by decide) (by decide) (by decide), h 24 (by decide) (by decide) (by decide), h 25 (by decide) (by decide) (by decide), h 26 (by decide) (by decide) (by decide), h 27 (by decide) (by decide) (by decide), h 28 (by decide) (by decide) (by decide)]
  exact hG
theorem cd_eq {a b w : Nat} : (((4 : Int32) * nI a) + nI b) * (19683 : Int32) + nI (gn w) = nI (cd (a, b, w)) := by
  rw [show (4 : Int32) * nI a = nI (4 * a) by rw [← pk_mul]; rfl, nI_add, show nI (4 * a + b) * (19683 : Int32) = nI ((4 * a + b) * 19683) by rw [← pk_mul]; rfl, nI_add]
  rfl
/-- the least number by each graph -/
def NX (P : Nat → Nat → Prop) (n : Nat) (f : Nat → Int32) : Prop := ∀ g, g < n → (f g = -9 ∧ ∀ w, ¬ P g w) ∨ ∃ w, f g = nI w ∧ P g w ∧ ∀ w', P g w' → w ≤ w'
theorem NX.congr {P Q : Nat → Nat → Prop} {n : Nat} {f : Nat → Int32} (h : NX P n f) (e : ∀ g w, g < n → (Q g w ↔ P g w)) : NX Q n f := by
  intro g hg
  rcases h g hg with ⟨h1, h2⟩ | ⟨w, h1, h2, h3⟩
  · exact Or.inl ⟨h1, fun w q => h2 w ((e g w hg).mp q)⟩
  · exact Or.inr ⟨w, h1, (e g w hg).mpr h2, fun w' q => h3 w' ((e g w' hg).mp q)⟩
theorem n9 : (-9 : Int32) < 0 := by decide
theorem n9_ne {w : Nat} (hw : w < 2 ^ 31) : (-9 : Int32) ≠ nI w := fun e => nI_pos hw (e ▸ n9)
theorem NX.put {P Q : Nat → Nat → Prop} {n g0 w : Nat} {f : Nat → Int32} {u : Int32} (h : NX P n f) (hg0 : g0 < n) (hw : w < 2 ^ 31) (hP : ∀ g w', P g w' → w' < 2 ^ 31) (hQ : ∀ g w', g < n → (Q g w' ↔ P g w' ∨ (g = g0 ∧ w' = w))) (hu : (f g0 < 0 ∧ u = nI w) ∨ (¬ f g0 < 0 ∧ f g0 ≤ nI w ∧ u = f g0) ∨ (¬ f g0 < 0 ∧ ¬ f g0 ≤ nI w ∧ u = nI w)) : NX Q n (upd f g0 u) := by
  intro g hg
  by_cases e : g = g0
  · subst e
    rw [pk_us]
    rcases h g hg with ⟨h1, h2⟩ | ⟨v, h1, h2, h3⟩
    · rw [h1] at hu
      have hu' : u = nI w := by
        rcases hu with ⟨_, q⟩ | ⟨q, _⟩ | ⟨q, _⟩
        · exact q
        · exact absurd n9 q
        · exact absurd n9 q
      refine Or.inr ⟨w, hu', (hQ g w hg).mpr (Or.inr ⟨rfl, rfl⟩), fun w' q => ?_⟩
      rcases (hQ g w' hg).mp q with z | z
      · exact absurd z (h2 w')
      · omega
    · have hv := hP g v h2
      rw [h1, nI_leI hv hw] at hu
      have np : ¬ nI v < 0 := nI_pos hv
      rcases hu with ⟨q, _⟩ | ⟨_, q1, q2⟩ | ⟨_, q1, q2⟩
      · exact absurd q np
      · refine Or.inr ⟨v, q2, (hQ g v hg).mpr (Or.inl h2), fun w' q => ?_⟩
        rcases (hQ g w' hg).mp q with z | z
        · exact h3 w' z
        · omega
      · refine Or.inr ⟨w, q2, (hQ g w hg).mpr (Or.inr ⟨rfl, rfl⟩), fun w' q => ?_⟩
        rcases (hQ g w' hg).mp q with z | z
        · have := h3 w' z; omega
        · omega
  · rw [pk_un e]
    rcases h g hg with ⟨h1, h2⟩ | ⟨v, h1, h2, h3⟩
    · refine Or.inl ⟨h1, fun w' q => ?_⟩
      rcases (hQ g w' hg).mp q with z | z
      · exact h2 w' z
      · exact e z.1
    · refine Or.inr ⟨v, h1, (hQ g v hg).mpr (Or.inl h2), fun w' q => ?_⟩
      rcases (hQ g w' hg).mp q with z | z
      · exact h3 w' z
      · exact absurd z.1 e
section SHORT
variable {B : BK} {s0' : St} {sL : Int64} {L : List Nd} {t n : Nat}
theorem sp_sh2 (hG : MG s0' L t) (hl : L.length ≤ 1000) {E : St → Prop} (h : ∀ s', (∀ k, k < L.length → s' 29 k = -9) → FQ s0' s' → E s') : Lp (F_X10_layShortest_2 E) ((0 : Int32), s0') := by
  refine lp_ind (fun q => ∃ m s, m ≤ L.length ∧ q = (nI m, s) ∧ (∀ k, k < m → s 29 k = -9) ∧ FQ s0' s) (fun q => L.length - q.1.toNatClampNeg) ?_ _ ⟨0, s0', by omega, rfl, fun k hk => absurd hk (by omega), FQ.rf⟩
  rintro _ R ⟨m, s, hm, rfl, h1, h2⟩ hR
  unfold F_X10_layShortest_2
  dsimp only
  rw [(h2.mg hG).1]
  constructor
  · intro c
    have := le3 (y := m) (b := L.length) (by omega) (by omega) c
    have : m = L.length := by omega
    subst this
    exact h s h1 h2
  · intro c
    have hml := nle3 (y := m) (b := L.length) (by omega) (by omega) c
    refine ⟨vp_in_nI (by omega) (by decide), ?_⟩
    rintro _ rfl _ rfl
    rw [nI_1]
    refine hR _ ⟨m + 1, _, by omega, rfl, fun k hk => ?_, fun q a1 a2 a3 => by rw [ua_n a1]; exact h2 q a1 a2 a3⟩ ?_
    · rw [ua_s, nI_clamp (by omega)]
      by_cases e : k = m
      · subst e; rw [pk_us]
      · rw [pk_un e]; exact h1 k (by omega)
    · dsimp only; rw [nI_clamp (by omega), nI_clamp (by omega)]; omega
theorem sp_sh160 (hG : MG s0' L t) (hl : L.length ≤ 1000) {E : St → Prop} (h : ∀ s', (∀ k, k < L.length → s' 30 k = -9) → FQ s0' s' → s' 29 = s0' 29 → E s') : Lp (F_X10_layShortest_160 E) ((0 : Int32), s0') := by
  refine lp_ind (fun q => ∃ m s, m ≤ L.length ∧ q = (nI m, s) ∧ (∀ k, k < m → s 30 k = -9) ∧ FQ s0' s ∧ s 29 = s0' 29) (fun q => L.length - q.1.toNatClampNeg) ?_ _ ⟨0, s0', by omega, rfl, fun k hk => absurd hk (by omega), FQ.rf, rfl⟩
  rintro _ R ⟨m, s, hm, rfl, h1, h2, h3⟩ hR
  unfold F_X10_layShortest_160
  dsimp only
  rw [(h2.mg hG).1]
  constructor
  · intro c
    have := le3 (y := m) (b := L.length) (by omega) (by omega) c
    have : m = L.length := by omega
    subst this
    exact h s h1 h2 h3
  · intro c
    have hml := nle3 (y := m) (b := L.length) (by omega) (by omega) c
    refine ⟨vp_in_nI (by omega) (by decide), ?_⟩
    rintro _ rfl _ rfl
    rw [nI_1]
    refine hR _ ⟨m + 1, _, by omega, rfl, fun k hk => ?_, fun q a1 a2 a3 => by rw [ua_n a2]; exact h2 q a1 a2 a3, by rw [ua_n (by decide)]; exact h3⟩ ?_
    · rw [ua_s, nI_clamp (by omega)]
      by_cases e : k = m
      · subst e; rw [pk_us]
      · rw [pk_un e]; exact h1 k (by omega)
    · dsimp only; rw [nI_clamp (by omega), nI_clamp (by omega)]; omega
theorem sp_sh331 (hG : MG s0' L t) (hl : L.length ≤ 1000) {x1 : Int32} {R74 : Int32 × St → Prop} (h : ∀ s', (∀ k, k < L.length → s' 29 k = s0' 30 k) → FQ s0' s' → R74 (x1 + 1, s')) : Lp (F_X10_layShortest_331 x1 R74) ((0 : Int32), s0') := by
  refine lp_ind (fun q => ∃ m s, m ≤ L.length ∧ q = (nI m, s) ∧ (∀ k, k < m → s 29 k = s0' 30 k) ∧ FQ s0' s ∧ s 30 = s0' 30) (fun q => L.length - q.1.toNatClampNeg) ?_ _ ⟨0, s0', by omega, rfl, fun k hk => absurd hk (by omega), FQ.rf, rfl⟩
  rintro _ R ⟨m, s, hm, rfl, h1, h2, h3⟩ hR
  unfold F_X10_layShortest_331
  dsimp only
  rw [(h2.mg hG).1]
  constructor
  · intro c
    have := le3 (y := m) (b := L.length) (by omega) (by omega) c
    have : m = L.length := by omega
    subst this
    rintro _ rfl
    exact h s h1 h2
  · intro c
    have hml := nle3 (y := m) (b := L.length) (by omega) (by omega) c
    have iv : vp_in (nI m) 1000 := vp_in_nI (by omega) (by decide)
    refine ⟨iv, iv, ?_⟩
    rintro _ rfl _ rfl
    rw [nI_1]
    refine hR _ ⟨m + 1, _, by omega, rfl, fun k hk => ?_, fun q a1 a2 a3 => by rw [ua_n a1]; exact h2 q a1 a2 a3, by rw [ua_n (by decide)]; exact h3⟩ ?_
    · rw [ua_s, nI_clamp (by omega), h3]
      by_cases e : k = m
      · subst e; rw [pk_us]
      · rw [pk_un e]; exact h1 k (by omega)
    · dsimp only; rw [nI_clamp (by omega), nI_clamp (by omega)]; omega
theorem sp_sh31 (hO : OKb B) (hM : MB s0' B) (hG : MG s0' L t) (hS : SI (L, false)) (hC : CLS B 0 L) (h9 : ∀ k, k < L.length → s0' 29 k = -9) {E : St → Prop} (h : ∀ s', NX (fun g w => WY B L 1 w g) L.length (s' 29) → FQ s0' s' → E s') : Lp (F_X10_layShortest_31 sL E) (nI (bN B) - 1, s0') := by
  have hN := hO.1
  have hl : L.length ≤ 1000 := hS.1
  have hnd : L.Nodup := hS.2.1
  refine lp_ind (fun q => ∃ m s, m ≤ bN B ∧ q = (nI m - 1, s) ∧ FQ s0' s ∧ NX (fun g w => m ≤ w ∧ w < bN B ∧ L[g]? = some (bs B w)) L.length (s 29)) (fun q => (q.1.toInt + 1).toNat) ?_ _ ⟨bN B, s0', Nat.le_refl _, rfl, FQ.rf, fun g hg => Or.inl ⟨h9 g hg, fun w q => by have := q.1; have := q.2.1; omega⟩⟩
  rintro _ R ⟨m, s, hm, rfl, h1, h2⟩ hR
  unfold F_X10_layShortest_31
  dsimp only at hR ⊢
  have hi : (nI m - (1 : Int32)).toInt = (m : Int) - 1 := sub1i (by omega)
  have z0 : (0 : Int32).toInt = 0 := by decide
  rw [hi] at hR
  constructor
  · intro c
    rw [ilt] at c
    have : m = 0 := by omega
    subst this
    refine h s (h2.congr (fun g w hg => ⟨fun q => ?_, fun q => ?_⟩)) h1
    · rcases q with ⟨-, q1, q2⟩ | ⟨v, d, j, y, q, -⟩
      · exact ⟨by omega, q1, q2⟩
      · exact q.elim
    · exact Or.inl ⟨rfl, q.2.1, q.2.2⟩
  · intro c
    rw [ilt] at c
    obtain ⟨d, rfl⟩ : ∃ d, m = d + 1 := ⟨m - 1, by omega⟩
    have hd : d < bN B := by omega
    obtain ⟨f4, t4, gw, -⟩ := hO.2.2 d hd
    have hM' := h1.kp.MB hM
    have hG' := h1.mg hG
    obtain ⟨mf, mt, ma⟩ := hM'.2.2 d hd
    have i8 : vp_in (nI d) 8 := vp_in_nI (by omega) (by decide)
    obtain ⟨g0, hg0⟩ := List.getElem?_of_mem (hC.1 d (inn0 hd))
    have hgl := (List.getElem?_eq_some_iff.mp hg0).1
    have hcl := cd_lt (x := (bf B d, bt B d, ba B d)) ⟨f4, t4, gw⟩
    rw [nI_pred]
    refine ⟨i8, i8, sp_numberOf (by omega) gw ma ?_⟩
    unfold wp_X10_codeOf
    rw [nI_clamp (n := d) (by omega), mf, mt, cd_eq]
    refine ⟨vp_in_nI hcl (by decide), ?_⟩
    rw [nI_clamp (n := cd (bf B d, bt B d, ba B d)) (by omega), (hG'.2.2.2.1 g0 (bf B d, bt B d, ba B d) hg0).2]
    refine ⟨vp_in_nI (by omega) (by decide), ?_⟩
    rintro _ rfl _ rfl
    rw [nI_m1]
    refine hR _ ⟨d, _, by omega, rfl, fun q a1 a2 a3 => by rw [ua_n a1]; exact h1 q a1 a2 a3, ?_⟩ ?_
    · rw [ua_s, nI_clamp (by omega)]
      intro g hg
      by_cases e : g = g0
      · subst e
        rw [pk_us]
        exact Or.inr ⟨d, rfl, ⟨Nat.le_refl _, hd, hg0⟩, fun w' q => q.1⟩
      · rw [pk_un e]
        have nd : ∀ w, L[g]? = some (bs B w) → w ≠ d := fun w q z => e (nd_ix hnd (z ▸ q) hg0)
        rcases h2 g hg with ⟨q1, q2⟩ | ⟨w, q1, q2, q3⟩
        · refine Or.inl ⟨q1, fun w q => q2 w ⟨?_, q.2⟩⟩
          have := nd w q.2.2
          have := q.1
          omega
        · refine Or.inr ⟨w, q1, ⟨by have := q2.1; omega, q2.2⟩, fun w' q => q3 w' ⟨?_, q.2⟩⟩
          have := nd w' q.2.2
          have := q.1
          omega
    · dsimp only
      rw [sub1i (by omega)]
      omega
/-- the least number of a BAD one among the first m -/
def BW (B : BK) (L : List Nd) (n m : Nat) (b : Int32) : Prop := (b = -9 ∧ ∀ k x w, k < m → L[k]? = some x → badb x = true → ¬ WY B L n w k) ∨ ∃ w k x, b = nI w ∧ k < m ∧ L[k]? = some x ∧ badb x = true ∧ WY B L n w k ∧ ∀ k' x' w', k' < m → L[k']? = some x' → badb x' = true → WY B L n w' k' → w ≤ w'
theorem w24 (hN : bN B ≤ 8) (hn : n ≤ 8) {w k : Nat} (h : WY B L n w k) : w < 16777216 := by
  have h1 := WY_8 hN n w k h
  have h2 : 8 ^ n ≤ 8 ^ 8 := Nat.pow_le_pow_right (by decide) hn
  have h3 : (8 : Nat) ^ 8 = 16777216 := by decide
  omega
theorem BW.stay {m : Nat} {b : Int32} {x : Nd} (hN : bN B ≤ 8) (hn : n ≤ 8) (h : BW B L n m b) (hx : L[m]? = some x) (hq : badb x = true → ∀ w', WY B L n w' m → ∃ w, b = nI w ∧ w < 2 ^ 31 ∧ w ≤ w') : BW B L n (m + 1) b := by
  rcases h with ⟨h1, h2⟩ | ⟨w, k, y, h1, h2, h3, h4, h5, h6⟩
  · refine Or.inl ⟨h1, fun k y w hk hy hb hw => ?_⟩
    by_cases e : k = m
    · subst e
      rw [hx] at hy
      cases hy
      obtain ⟨w2, q1, q2, -⟩ := hq hb w hw
      rw [h1] at q1
      exact n9_ne q2 q1
    · exact h2 k y w (by omega) hy hb hw
  · refine Or.inr ⟨w, k, y, h1, by omega, h3, h4, h5, fun k' x' w' hk hy hb hw => ?_⟩
    by_cases e : k' = m
    · subst e
      rw [hx] at hy
      cases hy
      obtain ⟨w2, q1, q2, q3⟩ := hq hb w' hw
      rw [h1] at q1
      have := w24 hN hn h5
      have := nI_eq0 (by omega) q2 q1
      omega
    · exact h6 k' x' w' (by omega) hy hb hw
theorem BW.take {m wm : Nat} {b : Int32} {x : Nd} (hN : bN B ≤ 8) (hn : n ≤ 8) (h : BW B L n m b) (hx : L[m]? = some x) (hb : badb x = true) (h1 : WY B L n wm m) (h2 : ∀ w', WY B L n w' m → wm ≤ w') (hlt : b < 0 ∨ ∀ w, b = nI w → wm ≤ w) : BW B L n (m + 1) (nI wm) := by
  refine Or.inr ⟨wm, m, x, rfl, by omega, hx, hb, h1, fun k' x' w' hk hy hb' hw => ?_⟩
  by_cases e : k' = m
  · subst e; exact h2 w' hw
  · rcases h with ⟨g1, g2⟩ | ⟨w, k, y, g1, g2, g3, g4, g5, g6⟩
    · exact absurd hw (g2 k' x' w' (by omega) hy hb')
    · have := g6 k' x' w' (by omega) hy hb' hw
      have hw24 := w24 hN hn g5
      rcases hlt with z | z
      · rw [g1] at z; exact absurd z (nI_pos (by omega))
      · have := z w g1; omega
end SHORT
