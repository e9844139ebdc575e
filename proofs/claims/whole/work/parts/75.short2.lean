section SHORT2
variable {B : BK} {s0' : St} {sL : Int64} {L : List Nd} {t n : Nat}
theorem sp_sh88 (hN : bN B ≤ 8) (hn : n ≤ 8) (hp : PW s0') (hG : MG s0' L t) (hS : SI (L, false)) (hW : NX (fun g w => WY B L n w g) L.length (s0' 29)) (h31 : s0' 31 0 = -9) {E : St → Prop} (h : ∀ s', FQ s0' s' → s' 29 = s0' 29 → BW B L n L.length (s' 31 0) → E s') : Lp (F_X10_layShortest_88 sL E) ((0 : Int32), s0') := by
  have hl : L.length ≤ 1000 := hS.1
  refine lp_ind (fun q => ∃ m s, m ≤ L.length ∧ q = (nI m, s) ∧ FQ s0' s ∧ s 29 = s0' 29 ∧ BW B L n m (s 31 0)) (fun q => L.length - q.1.toNatClampNeg) ?_ _ ⟨0, s0', by omega, rfl, FQ.rf, rfl, Or.inl ⟨h31, fun k x w hk => absurd hk (by omega)⟩⟩
  rintro _ R ⟨m, s, hm, rfl, h1, h2, h3⟩ hR
  unfold F_X10_layShortest_88
  dsimp only
  have hG' := h1.mg hG
  rw [hG'.1]
  constructor
  · intro c
    have := le3 (y := m) (b := L.length) (by omega) (by omega) c
    have : m = L.length := by omega
    subst this
    exact h s h1 h2 h3
  · intro c
    have hml := nle3 (y := m) (b := L.length) (by omega) (by omega) c
    have iv : vp_in (nI m) 1000 := vp_in_nI (by omega) (by decide)
    obtain ⟨x, hx⟩ : ∃ x, L[m]? = some x := ⟨_, List.getElem?_eq_getElem hml⟩
    have hNV : NV x := hS.2.2 x (List.mem_of_getElem? hx)
    have nxt : ∀ s', FQ s0' s' → s' 29 = s0' 29 → BW B L n (m + 1) (s' 31 0) → R (nI m + 1, s') := by
      intro s' a1 a2 a3
      rw [nI_1]
      refine hR _ ⟨m + 1, s', by omega, rfl, a1, a2, a3⟩ ?_
      dsimp only; rw [nI_clamp (by omega), nI_clamp (by omega)]; omega
    rw [nI_clamp (n := m) (by omega), h2]
    refine ⟨iv, ?_⟩
    rcases hW m hml with ⟨w1, w2⟩ | ⟨wm, w1, w2, w3⟩
    · rw [w1]
      refine ⟨fun _ => ?_, fun z => absurd n9 z⟩
      rintro _ rfl
      exact nxt s h1 h2 (h3.stay hN hn hx (fun _ w' q => absurd q (w2 w')))
    · have b1 := w24 hN hn w2
      have jj : (s 31 0 < 0 ∨ ∀ w, s 31 0 = nI w → wm ≤ w) → J_X10_layShortest_125 s sL (nI m) R := by
        intro hlt
        unfold J_X10_layShortest_125
        refine sp_isBadM (h1.kp.PW hp) hG' hl hx hNV ?_
        rw [bi_0, nI_clamp (n := m) (by omega), h2, w1]
        refine ⟨fun c2 => ?_, fun c2 => ⟨iv, ?_⟩⟩
        · rintro _ rfl
          exact nxt s h1 h2 (h3.stay hN hn hx (fun q => by rw [c2] at q; cases q))
        · rintro _ rfl _ rfl
          refine nxt _ (fun q a1 a2 a3 => by rw [us_n a3]; exact h1 q a1 a2 a3) (by rw [us_n (by decide)]; exact h2) ?_
          rw [us_s]
          exact h3.take hN hn hx (bt_of c2) w2 w3 hlt
      rw [w1]
      refine ⟨fun z => absurd z (nI_pos (by omega)), fun _ => ⟨fun z => jj (Or.inl z), fun z => ⟨iv, fun z2 => ?_, fun z2 => jj (Or.inr (fun w e => ?_))⟩⟩⟩
      · rintro _ rfl
        refine nxt s h1 h2 (h3.stay hN hn hx (fun _ w' q => ?_))
        rcases id h3 with ⟨g1, g2⟩ | ⟨w, k, y, g1, g2, g3, g4, g5, g6⟩
        · rw [g1] at z; exact absurd n9 z
        · have b2 := w24 hN hn g5
          rw [g1, nI_leI (by omega) (by omega)] at z2
          have := w3 w' q
          exact ⟨w, g1, by omega, by omega⟩
      · rcases id h3 with ⟨g1, g2⟩ | ⟨w', k, y, g1, g2, g3, g4, g5, g6⟩
        · rw [g1] at z; exact absurd n9 z
        · have b2 := w24 hN hn g5
          rw [g1, nI_leI (by omega) (by omega)] at z2
          rcases Nat.lt_or_ge w (2 ^ 31) with q | q
          · have := nI_eq0 (by omega) q (g1.symm.trans e)
            omega
          · omega
/-- what was laid after m graphs and c calls of the next -/
def PT (B : BK) (L : List Nd) (f : Nat → Int32) (m c g w : Nat) : Prop := ∃ v j y d, (j < m ∨ (j = m ∧ d < c)) ∧ v < 16777216 ∧ f j = nI v ∧ L[j]? = some y ∧ d < bN B ∧ bf B d = y.2.1 ∧ w = 8 * v + d ∧ L[g]? = some (st1 B y d)
theorem PT_b (hN : bN B ≤ 8) {f : Nat → Int32} {m c g w : Nat} (h : PT B L f m c g w) : w < 2 ^ 31 := by
  obtain ⟨v, j, y, d, h1, h2, h3, h4, h5, h6, h7, h8⟩ := h
  omega
theorem PT_next {f : Nat → Int32} {m c g w : Nat} (hc : bN B ≤ c ∨ f m = -9) : PT B L f (m + 1) 0 g w ↔ PT B L f m c g w := by
  constructor
  · rintro ⟨v, j, y, d, h1, h2, h3, h4, h5, h6, h7, h8⟩
    refine ⟨v, j, y, d, ?_, h2, h3, h4, h5, h6, h7, h8⟩
    by_cases e : j = m
    · rcases hc with z | z
      · exact Or.inr ⟨e, by omega⟩
      · subst e; rw [z] at h3; exact absurd h3 (n9_ne (by omega))
    · exact Or.inl (by omega)
  · rintro ⟨v, j, y, d, h1, h2, h3, h4, h5, h6, h7, h8⟩
    exact ⟨v, j, y, d, Or.inl (by omega), h2, h3, h4, h5, h6, h7, h8⟩
theorem PT_skip {f : Nat → Int32} {m c g w : Nat} {x : Nd} (hx : L[m]? = some x) (hb : bf B c ≠ x.2.1) : PT B L f m (c + 1) g w ↔ PT B L f m c g w := by
  constructor
  · rintro ⟨v, j, y, d, h1, h2, h3, h4, h5, h6, h7, h8⟩
    refine ⟨v, j, y, d, ?_, h2, h3, h4, h5, h6, h7, h8⟩
    rcases h1 with q | ⟨q1, q2⟩
    · exact Or.inl q
    · subst q1
      rw [hx] at h4
      cases h4
      refine Or.inr ⟨rfl, ?_⟩
      have : d ≠ c := fun e => hb (e ▸ h6)
      omega
  · rintro ⟨v, j, y, d, h1, h2, h3, h4, h5, h6, h7, h8⟩
    exact ⟨v, j, y, d, by omega, h2, h3, h4, h5, h6, h7, h8⟩
theorem PT_put (hnd : L.Nodup) {f : Nat → Int32} {m c g w v g0 : Nat} {x : Nd} (hv : v < 16777216) (hf : f m = nI v) (hx : L[m]? = some x) (hc : c < bN B) (hb : bf B c = x.2.1) (hg0 : L[g0]? = some (st1 B x c)) : PT B L f m (c + 1) g w ↔ PT B L f m c g w ∨ (g = g0 ∧ w = 8 * v + c) := by
  constructor
  · rintro ⟨v', j, y, d, h1, h2, h3, h4, h5, h6, h7, h8⟩
    by_cases e : j = m ∧ d = c
    · obtain ⟨e1, e2⟩ := e
      subst e1
      subst e2
      rw [hx] at h4
      cases h4
      rw [hf] at h3
      have := nI_eq0 (by omega) (by omega) h3
      subst this
      exact Or.inr ⟨nd_ix hnd h8 hg0, h7⟩
    · exact Or.inl ⟨v', j, y, d, by omega, h2, h3, h4, h5, h6, h7, h8⟩
  · rintro (⟨v', j, y, d, h1, h2, h3, h4, h5, h6, h7, h8⟩ | ⟨e1, e2⟩)
    · exact ⟨v', j, y, d, by omega, h2, h3, h4, h5, h6, h7, h8⟩
    · exact ⟨v, m, x, c, by omega, hv, hf, hx, hc, hb, e2, e1 ▸ hg0⟩
set_option maxHeartbeats 1000000 in
theorem sp_sh184 (hO : OKb B) (hn : n ≤ 8) (hn1 : 1 ≤ n) (hM : MB s0' B) (hp : PW s0') (hG : MG s0' L t) (hS : SI (L, false)) (hC : CLS B 0 L) (hW : NX (fun g w => WY B L n w g) L.length (s0' 29)) (h9 : ∀ k, k < L.length → s0' 30 k = -9) {E : St → Prop} (h : ∀ s', FQ s0' s' → NX (fun g w => WY B L (n + 1) w g) L.length (s' 30) → E s') : Lp (F_X10_layShortest_184 sL E) ((0 : Int32), s0') := by
  have hN := hO.1
  have hl : L.length ≤ 1000 := hS.1
  have hnd : L.Nodup := hS.2.1
  refine lp_ind (fun q => ∃ m s, m ≤ L.length ∧ q = (nI m, s) ∧ FQ s0' s ∧ s 29 = s0' 29 ∧ NX (PT B L (s0' 29) m 0) L.length (s 30)) (fun q => L.length - q.1.toNatClampNeg) ?_ _ ⟨0, s0', by omega, rfl, FQ.rf, rfl, fun g hg => Or.inl ⟨h9 g hg, ?_⟩⟩
  · rintro _ R ⟨m, s, hm, rfl, h1, h2, h3⟩ hR
    unfold F_X10_layShortest_184
    dsimp only
    have hG' := h1.mg hG
    rw [hG'.1]
    constructor
    · intro c
      have := le3 (y := m) (b := L.length) (by omega) (by omega) c
      have : m = L.length := by omega
      subst this
      refine h s h1 ?_
      intro g hg
      have lift : ∀ w, WY B L (n + 1) w g → ∃ w', PT B L (s0' 29) L.length 0 g w' ∧ w' ≤ w := by
        intro w hw
        rcases hw with ⟨e, -⟩ | ⟨v, d, j, y, q1, q2, q3, q4, q5, q6⟩
        · omega
        · have hjl := (List.getElem?_eq_some_iff.mp q2).1
          rcases hW j hjl with ⟨-, z⟩ | ⟨v', z1, z2, z3⟩
          · exact absurd q1 (z v)
          · have b1 := w24 hN hn z2
            have := z3 v q1
            exact ⟨8 * v' + d, ⟨v', j, y, d, Or.inl hjl, b1, z1, q2, q3, q4, rfl, q6⟩, by omega⟩
      have back : ∀ w, PT B L (s0' 29) L.length 0 g w → WY B L (n + 1) w g := by
        rintro w ⟨v, j, y, d, q1, q2, q3, q4, q5, q6, q7, q8⟩
        have hjl := (List.getElem?_eq_some_iff.mp q4).1
        rcases hW j hjl with ⟨z, -⟩ | ⟨v', z1, z2, z3⟩
        · rw [z] at q3; exact absurd q3 (n9_ne (by omega))
        · have b1 := w24 hN hn z2
          rw [q3] at z1
          have := nI_eq0 (by omega) (by omega) z1
          subst this
          exact Or.inr ⟨v, d, j, y, z2, q4, q5, q6, q7, q8⟩
      rcases h3 g hg with ⟨g1, g2⟩ | ⟨w, g1, g2, g3⟩
      · refine Or.inl ⟨g1, fun w hw => ?_⟩
        obtain ⟨w', q1, q2⟩ := lift w hw
        exact g2 w' q1
      · refine Or.inr ⟨w, g1, back w g2, fun w' hw => ?_⟩
        obtain ⟨w2, q1, q2⟩ := lift w' hw
        have := g3 w2 q1
        omega
    · intro c
      have hml := nle3 (y := m) (b := L.length) (by omega) (by omega) c
      have iv : vp_in (nI m) 1000 := vp_in_nI (by omega) (by decide)
      obtain ⟨x, hx⟩ : ∃ x, L[m]? = some x := ⟨_, List.getElem?_eq_getElem hml⟩
      have hNV : NV x := hS.2.2 x (List.mem_of_getElem? hx)
      refine lp_ind (fun q => ∃ d s', d ≤ bN B ∧ q = (nI d, s') ∧ FQ s0' s' ∧ s' 29 = s0' 29 ∧ NX (PT B L (s0' 29) m d) L.length (s' 30)) (fun q => bN B - q.1.toNatClampNeg) ?_ _ ⟨0, s, by omega, rfl, h1, h2, h3⟩
      rintro _ R2 ⟨d, s', hd, rfl, k1, k2, k3⟩ hR2
      unfold F_X10_layShortest_194
      dsimp only
      have hG2 := k1.mg hG
      have hM2 := k1.kp.MB hM
      have hp2 := k1.kp.PW hp
      have fin : (bN B ≤ d ∨ s0' 29 m = -9) → R (nI m + 1, s') := by
        intro hor
        rw [nI_1]
        refine hR _ ⟨m + 1, s', by omega, rfl, k1, k2, k3.congr (fun g w _ => PT_next hor)⟩ ?_
        dsimp only; rw [nI_clamp (by omega), nI_clamp (by omega)]; omega
      have nxt : ∀ s2, FQ s0' s2 → s2 29 = s0' 29 → NX (PT B L (s0' 29) m (d + 1)) L.length (s2 30) → d < bN B → R2 (nI d + 1, s2) := by
        intro s2 a1 a2 a3 a4
        rw [nI_1]
        refine hR2 _ ⟨d + 1, s2, by omega, rfl, a1, a2, a3⟩ ?_
        dsimp only; rw [nI_clamp (by omega), nI_clamp (by omega)]; omega
      rw [hM2.1]
      constructor
      · intro c2
        have := le3 (y := d) (b := bN B) (by omega) (by omega) c2
        rintro _ rfl
        exact fin (Or.inl this)
      · intro c2
        have hdN := nle3 (y := d) (b := bN B) (by omega) (by omega) c2
        rw [nI_clamp (n := m) (by omega), k2]
        refine ⟨iv, ?_⟩
        rcases hW m hml with ⟨w1, -⟩ | ⟨v, w1, w2, -⟩
        · rw [w1]
          refine ⟨fun _ => ?_, fun z => absurd n9 z⟩
          rintro _ rfl
          exact fin (Or.inr w1)
        · have b1 := w24 hN hn w2
          have hw1 := w1
          rw [w1]
          refine ⟨fun z => absurd z (nI_pos (by omega)), fun _ => ?_⟩
          obtain ⟨f4, t4, gw, -⟩ := hO.2.2 d hdN
          obtain ⟨mf, mt, ma⟩ := hM2.2.2 d hdN
          obtain ⟨y1, y2, y3⟩ := hG2.2.1 m x hx
          have i8 : vp_in (nI d) 8 := vp_in_nI (by omega) (by decide)
          rw [nI_clamp (n := d) (by omega), mf, mt, y1, y2, y3, nI_eq (by omega) (by have := hNV.2.1; omega)]
          refine ⟨i8, iv, fun c3 => ⟨iv, i8, iv, sp_numberOf (by omega) gw ma (sp_put2 hp2 hNV.2.2 gw ?_)⟩, fun c3 => ?_⟩
          · have hnv : NV (x.1, bt B d, jw x.2.2 (ba B d)) := ⟨hNV.1, t4, jw_GW _ _⟩
            have hcl := cd_lt hnv
            obtain ⟨g0, hg0⟩ := List.getElem?_of_mem (hC.2 x d (List.mem_of_getElem? hx) (inn0 hdN) c3)
            have hgl := (List.getElem?_eq_some_iff.mp hg0).1
            have ig : vp_in (nI g0) 1000 := vp_in_nI (by omega) (by decide)
            unfold wp_X10_codeOf
            rw [cd_eq]
            refine ⟨vp_in_nI hcl (by decide), ?_⟩
            rintro _ rfl
            refine ⟨iv, ?_⟩
            rintro _ rfl
            rw [nI_clamp (n := cd (x.1, bt B d, jw x.2.2 (ba B d))) (by omega), (hG2.2.2.2.1 g0 (x.1, bt B d, jw x.2.2 (ba B d)) hg0).2, show (8 : Int32) * nI v + nI d = nI (8 * v + d) by rw [← nI_add, ← pk_mul]; rfl]
            have put : ∀ u : Int32, ((s' 30 g0 < 0 ∧ u = nI (8 * v + d)) ∨ (¬ s' 30 g0 < 0 ∧ s' 30 g0 ≤ nI (8 * v + d) ∧ u = s' 30 g0) ∨ (¬ s' 30 g0 < 0 ∧ ¬ s' 30 g0 ≤ nI (8 * v + d) ∧ u = nI (8 * v + d))) → R2 (nI d + 1, ua s' 30 (nI g0) u) := by
              intro u hu
              refine nxt _ (fun q a1 a2 a3 => by rw [ua_n a2]; exact k1 q a1 a2 a3) (by rw [ua_n (by decide)]; exact k2) ?_ hdN
              rw [ua_s, nI_clamp (by omega)]
              exact k3.put hgl (by omega) (fun g w' q => PT_b hN q) (fun g w' _ => PT_put hnd b1 hw1 hx hdN c3 hg0) hu
            rw [nI_clamp (n := g0) (by omega)]
            refine ⟨ig, fun c4 => ⟨ig, ?_⟩, fun c4 => ⟨ig, fun c5 => ⟨ig, ig, ?_⟩, fun c5 => ⟨ig, ?_⟩⟩⟩
            · rintro _ rfl _ rfl
              exact put _ (Or.inl ⟨c4, rfl⟩)
            · rintro _ rfl _ rfl
              exact put _ (Or.inr (Or.inl ⟨c4, c5, rfl⟩))
            · rintro _ rfl _ rfl
              exact put _ (Or.inr (Or.inr ⟨c4, c5, rfl⟩))
          · rintro _ rfl
            exact nxt s' k1 k2 (k3.congr (fun g w _ => PT_skip hx c3)) hdN
  · rintro w ⟨v, j, y, d, q1, -⟩
    omega
/-- no BAD way of n calls -/
def NBd (B : BK) (L : List Nd) (n : Nat) : Prop := ∀ k x w, L[k]? = some x → badb x = true → ¬ WY B L n w k
/-- the least BAD way has n calls, and their numbers w -/
def LBW (B : BK) (L : List Nd) (n w : Nat) : Prop := 1 ≤ n ∧ (∀ n', n' < n → NBd B L n') ∧ (∃ k x, L[k]? = some x ∧ badb x = true ∧ WY B L n w k) ∧ ∀ k x w', L[k]? = some x → badb x = true → WY B L n w' k → w ≤ w'
theorem sp_layShortest (hO : OKb B) (hM : MB s0' B) (hp : PW s0') (hG : MG s0' L t) (hS : SI (L, false)) (hC : CLS B 0 L) {K : Int32 → St → Prop} (h0 : (∀ n, n ≤ 8 → NBd B L n) → ∀ s', FQ s0' s' → K (-9) s') (h1 : ∀ n w, LBW B L n w → n ≤ 8 → w < 16777216 → ∀ s', FQ s0' s' → s' 31 0 = nI w → K (nI n) s') : wp_X10_layShortest s0' sL K := by
  unfold wp_X10_layShortest
  have hN := hO.1
  have hl : L.length ≤ 1000 := hS.1
  refine sp_sh2 hG hl (fun s1 a1 a2 => ?_)
  rintro _ rfl
  rw [(a2.kp.MB hM).1]
  refine sp_sh31 hO (a2.kp.MB hM) (a2.mg hG) hS hC a1 (fun s2 b1 b2 => ?_)
  have c2 := a2.tr b2
  refine lp_ind (fun q => ∃ n s, 1 ≤ n ∧ n ≤ 9 ∧ q = (nI n, s) ∧ FQ s0' s ∧ NX (fun g w => WY B L n w g) L.length (s 29) ∧ ∀ n', n' < n → NBd B L n') (fun q => 9 - q.1.toNatClampNeg) ?_ _ ⟨1, s2, by omega, by omega, rfl, c2, b1, fun n' hn' => ?_⟩
  · rintro _ R ⟨n, s, hn1, hn9, rfl, d1, d2, d3⟩ hR
    unfold F_X10_layShortest_74
    dsimp only
    rw [show (8 : Int32) = nI 8 from rfl, nI_ltI (by decide) (by omega)]
    refine ⟨fun c => h0 (fun n' hn' => d3 n' (by omega)) s d1, fun c => ?_⟩
    have hn8 : n ≤ 8 := by omega
    rintro _ rfl
    have e1 : FQ s0' (us s 31 (-9)) := fun q a1 a2 a3 => by rw [us_n a3]; exact d1 q a1 a2 a3
    have e2 : (us s 31 (-9)) 29 = s 29 := us_n (by decide)
    refine sp_sh88 hN hn8 (e1.kp.PW hp) (e1.mg hG) hS (by rw [e2]; exact d2) (by rw [us_s]) (fun s3 f1 f2 f3 => ?_)
    have g1 := e1.tr f1
    rcases f3 with ⟨q1, q2⟩ | ⟨w, k, x, q1, q2, q3, q4, q5, q6⟩
    · rw [q1]
      refine ⟨fun _ => ?_, fun z => absurd n9 z⟩
      refine sp_sh160 (g1.mg hG) hl (fun s4 i1 i2 i3 => ?_)
      have g2 := g1.tr i2
      refine sp_sh184 hO hn8 hn1 (g2.kp.MB hM) (g2.kp.PW hp) (g2.mg hG) hS hC (by rw [i3, f2, e2]; exact d2) i1 (fun s5 j1 j2 => ?_)
      have g3 := g2.tr j1
      refine sp_sh331 (g3.mg hG) hl (fun s6 l1 l2 => ?_)
      rw [nI_1]
      refine hR _ ⟨n + 1, s6, by omega, by omega, rfl, g3.tr l2, fun g hg => by rw [l1 g hg]; exact j2 g hg, fun n' hn' => ?_⟩ ?_
      · by_cases e : n' = n
        · subst e
          exact fun k x w hx => q2 k x w (List.getElem?_eq_some_iff.mp hx).1 hx
        · exact d3 n' (by omega)
      · dsimp only; rw [nI_clamp (by omega), nI_clamp (by omega)]; omega
    · have b1 := w24 hN hn8 q5
      rw [q1]
      refine ⟨fun z => absurd z (nI_pos (by omega)), fun _ => ?_⟩
      exact h1 n w ⟨hn1, d3, ⟨k, x, q3, q4, q5⟩, fun k' x' w' hx => q6 k' x' w' (List.getElem?_eq_some_iff.mp hx).1 hx⟩ hn8 b1 s3 g1 q1
  · intro k x w _ _ hw
    have : n' = 0 := by omega
    subst this
    exact hw
end SHORT2
