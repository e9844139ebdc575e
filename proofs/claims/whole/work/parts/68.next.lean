/-- a call leads from a state to another -/
def arcok (B : BK) (c s t k : Nat) : Bool := decide (dg (ba B c) k = 0) || (if dg (ba B c) k = 2 then decide (dg t (k % 3) < dg s (k / 3)) else decide (dg t (k % 3) ≤ dg s (k / 3)))
def ldk (B : BK) (c s t : Nat) : Nat → Bool
  | 0 => decide (bf B c = s / 64) && decide (bt B c = t / 64)
  | m + 1 => ldk B c s t m && arcok B c s t m
def LD (B : BK) (c s t : Nat) : Prop := bf B c = s / 64 ∧ bt B c = t / 64 ∧ ∀ k, k < 9 → arcok B c s t k = true
theorem ldk_iff {B : BK} {c s t : Nat} : ∀ m, ldk B c s t m = true ↔ bf B c = s / 64 ∧ bt B c = t / 64 ∧ ∀ k, k < m → arcok B c s t k = true := by
  intro m
  induction m with
  | zero =>
    simp only [ldk]
    rw [Bool.and_eq_true, decide_eq_true_eq, decide_eq_true_eq]
    exact ⟨fun h => ⟨h.1, h.2, fun k hk => absurd hk (by omega)⟩, fun h => ⟨h.1, h.2.1⟩⟩
  | succ m ih =>
    simp only [ldk]
    rw [Bool.and_eq_true, ih]
    constructor
    · rintro ⟨⟨h1, h2, h3⟩, h4⟩
      refine ⟨h1, h2, fun k hk => ?_⟩
      by_cases e : k = m
      · subst e; exact h4
      · exact h3 k (by omega)
    · rintro ⟨h1, h2, h3⟩
      exact ⟨⟨h1, h2, fun k hk => h3 k (by omega)⟩, h3 m (by omega)⟩
theorem ldk_stop {B : BK} {c s t m : Nat} (h : ldk B c s t m = false) : ∀ d, ldk B c s t (m + d) = false := by
  intro d
  induction d with
  | zero => exact h
  | succ d ih => rw [← Nat.add_assoc]; simp only [ldk]; rw [ih]; rfl
def gtm (B : BK) (s t : Nat) : Nat → Bool
  | 0 => false
  | m + 1 => gtm B s t m || ldk B m s t 9
theorem gtm_iff {B : BK} {s t : Nat} : ∀ m, gtm B s t m = true ↔ ∃ c, c < m ∧ LD B c s t := by
  intro m
  induction m with
  | zero =>
    constructor
    · intro h
      simp only [gtm] at h
      exact absurd h (by decide)
    · rintro ⟨c, h, _⟩
      exact absurd h (by omega)
  | succ m ih =>
    simp only [gtm]
    rw [Bool.or_eq_true, ih, ldk_iff]
    constructor
    · rintro (⟨c, h1, h2⟩ | h)
      · exact ⟨c, by omega, h2⟩
      · exact ⟨m, by omega, h⟩
    · rintro ⟨c, h1, h2⟩
      by_cases e : c = m
      · subst e; exact Or.inr h2
      · exact Or.inl ⟨c, by omega, h2⟩
theorem gtm_stop {B : BK} {s t m : Nat} (h : gtm B s t m = true) : ∀ d, gtm B s t (m + d) = true := by
  intro d
  induction d with
  | zero => exact h
  | succ d ih => rw [← Nat.add_assoc]; simp only [gtm]; rw [ih]; rfl
section LEADS
variable {B : BK} {sS : St} {sL : Int64} {M : Nat}
theorem sp_leads31 (hO : OKb B) (hM : MB sS B) {c s t : Nat} (hc : c < bN B) (hs : s < 256) (ht : t < 256) {K : Int32 → Prop} (h : K (bi (ldk B c s t 9))) : J_X10_leads_31 sS (nI c) (nI s) (nI t) (bi (ldk B c s t 0)) K := by
  unfold J_X10_leads_31
  have hN := hO.1
  obtain ⟨mf, mt, ma⟩ := hM.2.2 c hc
  have gw := (hO.2.2 c hc).2.2.1
  refine lp_ind (fun q => ∃ m, m ≤ 9 ∧ q = (bi (ldk B c s t m), nI m)) (fun q => 9 - q.2.toNatClampNeg) ?_ _ ⟨0, by omega, rfl⟩
  rintro _ R ⟨m, hm, rfl⟩ hR
  unfold F_X10_leads_36
  dsimp only
  constructor
  · intro c1
    have := le3 (y := m) (b := 9) (by omega) (by omega) c1
    have : m = 9 := by omega
    subst this
    exact ⟨bi_zb _, h⟩
  · intro c1
    have hm9 := nle3 (y := m) (b := 9) (by omega) (by omega) c1
    rw [bi_0]
    refine ⟨fun c2 => ⟨bi_zb _, ?_⟩, fun c2 => ?_⟩
    · have e := ldk_stop c2 (9 - m)
      rw [show m + (9 - m) = 9 by omega] at e
      rw [e] at h; rw [c2]; exact h
    · have next : ∀ b : Int32, b = bi (arcok B c s t m) → R (b, nI m + 1) := by
        intro b eb
        rw [nI_1]
        refine hR _ ⟨m + 1, by omega, by rw [eb]; simp only [ldk]; rw [bt_of c2]; rfl⟩ ?_
        dsimp only; rw [nI_clamp (by omega), nI_clamp (by omega)]; omega
      have e1 : nI m / (3 : Int32) = nI (m / 3) := pk_div (by omega) (by decide) (by decide)
      have e2 : nI m - nI m / (3 : Int32) * (3 : Int32) = nI (m % 3) := pk_rem (by omega) (by decide) (by decide)
      rw [e2, e1]
      refine sp_size (by omega) (by omega) (sp_size (by omega) (by omega) ?_)
      have e3 : (9 : Int32) * nI c + nI m = nI (9 * c + m) := by rw [← nI_add, ← pk_mul]; rfl
      have iv : vp_in (nI (9 * c + m)) 72 := vp_in_nI (by omega) (by decide)
      have hd := gw.2 m hm9
      have hds := dg_lt s (m / 3)
      have hdt := dg_lt t (m % 3)
      have e4 : nI (dg (ba B c) m) = (2 : Int32) ↔ dg (ba B c) m = 2 := nI_eq (b := 2) (by omega) (by decide)
      rw [e3, nI_clamp (n := 9 * c + m) (by omega), ma m hm9, nI_z (by omega), e4, nI_leI (by omega) (by omega), nI_ltI (by omega) (by omega)]
      refine ⟨iv, fun c3 => ?_, fun c3 => ⟨iv, fun c4 => ⟨fun c5 => ?_, fun c5 => ?_⟩, fun c4 => ⟨fun c5 => ?_, fun c5 => ?_⟩⟩⟩
      · rintro _ rfl
        exact next _ (by unfold arcok; rw [decide_eq_true c3]; rfl)
      · rintro _ rfl
        exact next _ (by unfold arcok; rw [decide_eq_false c3, if_pos c4, decide_eq_false (by omega)]; rfl)
      · rintro _ rfl
        exact next _ (by unfold arcok; rw [decide_eq_false c3, if_pos c4, decide_eq_true (by omega)]; rfl)
      · rintro _ rfl
        exact next _ (by unfold arcok; rw [decide_eq_false c3, if_neg c4, decide_eq_false (by omega)]; rfl)
      · rintro _ rfl
        exact next _ (by unfold arcok; rw [decide_eq_false c3, if_neg c4, decide_eq_true (by omega)]; rfl)
theorem sp_leads (hO : OKb B) (hM : MB sS B) {c s t : Nat} (hc : c < bN B) (hs : s < 256) (ht : t < 256) {K : Int32 → Prop} (h : K (bi (ldk B c s t 9))) : wp_X10_leads sS sL (nI c) (nI s) (nI t) K := by
  unfold wp_X10_leads
  have hN := hO.1
  obtain ⟨mf, mt, ma⟩ := hM.2.2 c hc
  obtain ⟨f4, t4, gw, -⟩ := hO.2.2 c hc
  have i8 : vp_in (nI c) 8 := vp_in_nI (by omega) (by decide)
  have e1 : nI s / (64 : Int32) = nI (s / 64) := pk_div (by omega) (by decide) (by decide)
  have e2 : nI t / (64 : Int32) = nI (t / 64) := pk_div (by omega) (by decide) (by decide)
  have h31 := sp_leads31 hO hM hc hs ht h
  rw [nI_clamp (n := c) (by omega), mf, mt, e1, e2, nI_eq (by omega) (by omega), nI_eq (by omega) (by omega)]
  have e0 : ∀ b : Bool, b = ldk B c s t 0 → J_X10_leads_31 sS (nI c) (nI s) (nI t) (bi b) K := fun b eb => by rw [eb]; exact h31
  refine ⟨i8, fun c1 => ⟨i8, fun c2 => e0 true ?_, fun c2 => ?_⟩, fun c1 => ?_⟩
  · simp only [ldk]; rw [decide_eq_true c1, decide_eq_true c2]; rfl
  · unfold J_X10_leads_30
    exact e0 false (by simp only [ldk]; rw [decide_eq_false c2, Bool.and_false])
  · unfold J_X10_leads_30
    exact e0 false (by simp only [ldk]; rw [decide_eq_false c1]; rfl)
theorem sp_goesTo (hO : OKb B) (hM : MB sS B) {s t : Nat} (hs : s < 256) (ht : t < 256) {K : Int32 → Prop} (h : K (bi (gtm B s t (bN B)))) : wp_X10_goesTo sS sL (nI s) (nI t) K := by
  unfold wp_X10_goesTo
  have hN := hO.1
  refine lp_ind (fun q => ∃ m, m ≤ bN B ∧ q = (bi (gtm B s t m), nI m)) (fun q => 9 - q.2.toNatClampNeg) ?_ _ ⟨0, by omega, rfl⟩
  rintro _ R ⟨m, hm, rfl⟩ hR
  unfold F_X10_goesTo_5
  dsimp only
  rw [hM.1]
  constructor
  · intro c1
    have := le3 (y := m) (b := bN B) (by omega) (by omega) c1
    have : m = bN B := by omega
    subst this
    exact ⟨bi_zb _, h⟩
  · intro c1
    have hmN := nle3 (y := m) (b := bN B) (by omega) (by omega) c1
    rw [bi_0]
    refine ⟨fun c2 => sp_leads hO hM hmN hs ht ?_, fun c2 => ⟨bi_zb _, ?_⟩⟩
    · rintro _ rfl
      rw [nI_1]
      refine hR _ ⟨m + 1, by omega, by simp only [gtm]; rw [c2]; rfl⟩ ?_
      dsimp only; rw [nI_clamp (by omega), nI_clamp (by omega)]; omega
    · have e := gtm_stop (bt_of c2) (bN B - m)
      rw [show m + (bN B - m) = bN B by omega] at e
      rw [e] at h; rw [bt_of c2]; exact h
end LEADS
/-- no greater sizes -/
def box (g t : Nat) : Bool := decide (t / 64 = g / 64) && ((decide (dg t 0 ≤ dg g 0) && decide (dg t 1 ≤ dg g 1)) && decide (dg t 2 ≤ dg g 2))
theorem box_iff {g t : Nat} : box g t = true ↔ t / 64 = g / 64 ∧ ∀ y, y < 3 → dg t y ≤ dg g y := by
  unfold box
  rw [Bool.and_eq_true, Bool.and_eq_true, Bool.and_eq_true, decide_eq_true_eq, decide_eq_true_eq, decide_eq_true_eq, decide_eq_true_eq]
  exact ⟨fun ⟨a, ⟨b, c⟩, d⟩ => ⟨a, all3 b c d⟩, fun ⟨a, b⟩ => ⟨a, ⟨b 0 (by decide), b 1 (by decide)⟩, b 2 (by decide)⟩⟩
theorem box_le {g t : Nat} (hg : g < 256) (ht : t < 256) (h : box g t = true) : t ≤ g ∧ 64 * (g / 64) ≤ t := by
  obtain ⟨h1, h2⟩ := box_iff.mp h
  have e1 := st_of hg
  have e2 := st_of ht
  have a0 := h2 0 (by decide); have a1 := h2 1 (by decide); have a2 := h2 2 (by decide)
  omega
section GAF
variable {B : BK} {M : Nat}
theorem arcok_iff {c s t x y : Nat} (hy : y < 3) : arcok B c s t (3 * x + y) = true ↔ dg (ba B c) (3 * x + y) = 0 ∨ dg t y < (if dg (ba B c) (3 * x + y) = 2 then dg s x else dg s x + 1) := by
  unfold arcok
  rw [Bool.or_eq_true, decide_eq_true_eq, show (3 * x + y) % 3 = y by omega, show (3 * x + y) / 3 = x by omega]
  split
  · rw [decide_eq_true_eq]
  · rw [decide_eq_true_eq]
    constructor
    · rintro (h | h)
      · exact Or.inl h
      · exact Or.inr (by omega)
    · rintro (h | h)
      · exact Or.inl h
      · exact Or.inr (by omega)
/-- a state comes behind a call just if its sizes lie below the greatest -/
theorem LD_iff (hO : OKb B) {c s t : Nat} (hc : c < bN B) (hf : bf B c = s / 64) (ht : okS B M t) : LD B c s t ↔ bt B c = t / 64 ∧ ∀ y, y < bp B (bt B c) → dg t y < ga B M c s y := by
  obtain ⟨f4, t4, gw, hz⟩ := hO.2.2 c hc
  have pt := hO.2.1 _ t4
  constructor
  · rintro ⟨h1, h2, h3⟩
    refine ⟨h2, fun y hy => ?_⟩
    show dg t y < gA M (ba B c) s y 3
    rw [gA_lt]
    refine ⟨?_, fun x hx => ?_⟩
    · have := ht.2 y (by omega)
      exact Nat.le_trans this lim_le
    · exact (arcok_iff (by omega)).mp (h3 (3 * x + y) (by omega))
  · rintro ⟨h2, h3⟩
    refine ⟨hf, h2, fun k hk => ?_⟩
    have ek : k = 3 * (k / 3) + k % 3 := by omega
    rw [ek, arcok_iff (by omega)]
    rcases Nat.eq_zero_or_pos (dg (ba B c) (3 * (k / 3) + k % 3)) with q | q
    · exact Or.inl q
    · have hy := (hz (k / 3) (k % 3) (by omega) (by omega) (by omega)).2
      have := h3 (k % 3) hy
      have := (gA_lt 3).mp (show dg t (k % 3) < gA M (ba B c) s (k % 3) 3 from this)
      exact this.2 (k / 3) (by omega)
theorem gaf_none (hO : OKb B) {c s : Nat} (hc : c < bN B) (hf : bf B c = s / 64) (h : gaf B M c s = none) : ∀ t, okS B M t → ¬ LD B c s t := by
  intro t ht hl
  have h2 := ((LD_iff hO hc hf ht).mp hl).2
  unfold gaf at h
  have : gz B M c s (bp B (bt B c)) = true := (gz_iff _).mpr (fun y hy => by have := h2 y hy; omega)
  rw [if_pos this] at h
  cases h
theorem gaf_some (hO : OKb B) (hM3 : M ≤ 3) {c s g : Nat} (hc : c < bN B) (hf : bf B c = s / 64) (h : gaf B M c s = some g) : okS B M g ∧ g / 64 = bt B c ∧ ∀ t, t < 256 → ((okS B M t ∧ LD B c s t) ↔ box g t = true) := by
  obtain ⟨f4, t4, gw, hz⟩ := hO.2.2 c hc
  have pt := hO.2.1 _ t4
  unfold gaf at h
  split at h
  · rename_i hg
    have hg := (gz_iff _).mp hg
    cases h
    have hgl : ∀ y, ga B M c s y ≤ M + 1 := fun y => gA_le M (ba B c) s y 3
    obtain ⟨d1, d2, d3⟩ := acc_dg (a := bt B c) (p := bp B (bt B c)) (f := fun y => ga B M c s y - 1) t4 (fun i _ => by have := hgl i; omega)
    have hok : okS B M (acc (bt B c) (fun y => ga B M c s y - 1) (bp B (bt B c))) := by
      refine ⟨d1, fun x hx => ?_⟩
      rw [d3 x hx, d2]
      unfold lim
      split
      · have := hgl x; omega
      · omega
    refine ⟨hok, d2, fun t ht => ?_⟩
    rw [box_iff, d2]
    constructor
    · rintro ⟨h1, h2⟩
      obtain ⟨h3, h4⟩ := (LD_iff hO hc hf h1).mp h2
      refine ⟨h3.symm, fun y hy => ?_⟩
      rw [d3 y hy]
      split
      · rename_i hp
        have := h4 y hp
        omega
      · rename_i hp
        have := h1.2 y hy
        unfold lim at this
        rw [← h3, if_neg hp] at this
        exact this
    · rintro ⟨h1, h2⟩
      have hokt : okS B M t := by
        refine ⟨ht, fun x hx => ?_⟩
        have q1 := h2 x hx
        have q2 := hok.2 x hx
        rw [d2] at q2
        rw [h1]; omega
      refine ⟨hokt, (LD_iff hO hc hf hokt).mpr ⟨h1.symm, fun y hy => ?_⟩⟩
      have := h2 y (by omega)
      rw [d3 y (by omega), if_pos hy] at this
      have := hg y hy
      omega
  · cases h
end GAF
def b1n (b : Bool) : Nat := match b with
  | true => 1
  | false => 0
def b2I (b : Bool) : Int32 := match b with
  | true => 2
  | false => 0
theorem b2I_0 (b : Bool) : b2I b = 0 ↔ b = false := by cases b <;> decide
/-- how many there are below m -/
def cb (P : Nat → Bool) : Nat → Nat
  | 0 => 0
  | m + 1 => cb P m + b1n (P m)
theorem b1n_le (b : Bool) : b1n b ≤ 1 := by cases b <;> decide
theorem cb_le (P : Nat → Bool) (m : Nat) : cb P m ≤ m := by
  induction m with
  | zero => exact Nat.le_refl _
  | succ m ih => simp only [cb]; have := b1n_le (P m); omega
theorem cb_congr {P Q : Nat → Bool} : ∀ m, (∀ t, t < m → P t = Q t) → cb P m = cb Q m := by
  intro m
  induction m with
  | zero => intro _; rfl
  | succ m ih => intro h; simp only [cb]; rw [ih (fun t ht => h t (by omega)), h m (by omega)]
theorem cb_zero {P : Nat → Bool} : ∀ m, (∀ t, t < m → P t = false) → cb P m = 0 := by
  intro m
  induction m with
  | zero => intro _; rfl
  | succ m ih => intro h; simp only [cb]; rw [ih (fun t ht => h t (by omega)), h m (by omega)]; rfl
theorem cb_tail {P : Nat → Bool} {m : Nat} : ∀ d, (∀ t, m ≤ t → t < m + d → P t = false) → cb P (m + d) = cb P m := by
  intro d
  induction d with
  | zero => intro _; rfl
  | succ d ih =>
    intro h
    rw [← Nat.add_assoc]
    simp only [cb]
    rw [ih (fun t h1 h2 => h t h1 (by omega)), h (m + d) (by omega) (by omega)]
    rfl
theorem cb_or {U V : Nat → Bool} : ∀ m, cb (fun t => U t || V t) m = cb U m + cb (fun t => V t && !U t) m := by
  intro m
  induction m with
  | zero => rfl
  | succ m ih =>
    simp only [cb]
    rw [ih]
    have : b1n (U m || V m) = b1n (U m) + b1n (V m && !U m) := by
      generalize U m = u
      generalize V m = v
      cases u <;> cases v <;> rfl
    rw [this]; omega
theorem nI_p0 (n : Nat) : nI n + 0 = nI n := by rw [show (0 : Int32) = nI 0 from rfl, nI_add, Nat.add_zero]
section NEXT
variable {B : BK} {sX sT sB sD sR sK sM sJ sV : St} {sW : Int64} {sS : St} {sL : Int64} {M : Nat}
theorem and3s {g k : Nat} (hg : g < 2 ^ 31) (hk : k < 32) : (nI g >>> (nI k &&& 31)) &&& (3 : Int32) = nI (g / 2 ^ k % 4) := by
  rw [shr_nI hg hk, and3 (by have := Nat.div_le_self g (2 ^ k); omega)]
theorem sp_isWithin {g t : Nat} (hg : g < 256) (ht : t < 256) (ha : t / 64 = g / 64) {K : Int32 → Prop} (h : K (bi (box g t))) : wp_X6_isWithin (nI t) (nI g) K := by
  unfold wp_X6_isWithin
  have d0 : ∀ s : Nat, dg s 0 = s % 4 := fun s => by simp only [dg]; omega
  have d1 : ∀ s : Nat, dg s 1 = s / 2 ^ 2 % 4 := fun s => rfl
  have d2 : ∀ s : Nat, dg s 2 = s / 2 ^ 4 % 4 := fun s => rfl
  have a1 := dg_lt g 0; have a2 := dg_lt g 1; have a3 := dg_lt g 2
  have b1 := dg_lt t 0; have b2 := dg_lt t 1; have b3 := dg_lt t 2
  rw [and3 (n := g) (by omega), and3 (n := t) (by omega), show (nI g >>> ((2 : Int32) &&& 31)) &&& (3 : Int32) = nI (g / 2 ^ 2 % 4) from and3s (k := 2) (by omega) (by decide), show (nI t >>> ((2 : Int32) &&& 31)) &&& (3 : Int32) = nI (t / 2 ^ 2 % 4) from and3s (k := 2) (by omega) (by decide), show (nI g >>> ((4 : Int32) &&& 31)) &&& (3 : Int32) = nI (g / 2 ^ 4 % 4) from and3s (k := 4) (by omega) (by decide), show (nI t >>> ((4 : Int32) &&& 31)) &&& (3 : Int32) = nI (t / 2 ^ 4 % 4) from and3s (k := 4) (by omega) (by decide), ← d0, ← d0, ← d1, ← d1, ← d2, ← d2, nI_ltI (by omega) (by omega), nI_ltI (by omega) (by omega), nI_ltI (by omega) (by omega)]
  unfold box at h
  rw [decide_eq_true ha] at h
  refine ⟨fun c => ?_, fun c => ⟨fun c2 => ?_, fun c2 => ⟨fun c3 => ?_, fun c3 => ?_⟩⟩⟩
  · rw [decide_eq_false (p := dg t 0 ≤ dg g 0) (by omega)] at h; exact h
  · rw [decide_eq_false (p := dg t 1 ≤ dg g 1) (by omega), Bool.and_false] at h; exact h
  · rw [decide_eq_false (p := dg t 2 ≤ dg g 2) (by omega), Bool.and_false] at h; exact h
  · rw [decide_eq_true (p := dg t 0 ≤ dg g 0) (by omega), decide_eq_true (p := dg t 1 ≤ dg g 1) (by omega), decide_eq_true (p := dg t 2 ≤ dg g 2) (by omega)] at h; exact h
/-- the marks of a set -/
def MK (sV : St) (U : Nat → Bool) : Prop := ∀ t, t < 256 → sV 1 t = b2I (U t)
theorem MK.z {sV : St} {U : Nat → Bool} (h : MK sV U) {t : Nat} (ht : t < 256) : sV 1 t = 0 ↔ U t = false := by
  rw [h t ht]
  exact b2I_0 _
theorem base_ok : ∀ g, g < 256 → nI g &&& (-64 : Int32) = nI (64 * (g / 64)) := by decide +kernel
theorem sp_markUpTo {U : Nat → Bool} (hU : MK sV U) {g : Nat} (hg : g < 256) {K : Int32 → St → Prop} (h : ∀ s, MK s (fun t => U t || box g t) → (∀ q, q ≠ 1 → s q = sV q) → K (nI (cb (fun t => box g t && !U t) 256)) s) : wp_X6_markUpTo sV (nI g) K := by
  unfold wp_X6_markUpTo
  refine ⟨fun _ => ?_, fun z => absurd (nI_pos' (by omega)) z⟩
  rw [base_ok g hg]
  rintro _ rfl
  refine lp_ind (fun q => ∃ st s, 64 * (g / 64) ≤ st ∧ st ≤ g + 1 ∧ q = (nI (cb (fun t => box g t && !U t) st), nI st, s) ∧ MK s (fun t => U t || (box g t && decide (t < st))) ∧ ∀ q, q ≠ 1 → s q = sV q) (fun q => 257 - q.2.1.toNatClampNeg) ?_ _ ⟨64 * (g / 64), sV, by omega, by omega, ?_, ?_, fun _ _ => rfl⟩
  · rintro _ R ⟨st, s, h1, h2, rfl, hK, hF⟩ hR
    unfold F_X6_markUpTo_16
    dsimp only
    have hbx : ∀ t, t < 256 → box g t = true → t ≤ g ∧ 64 * (g / 64) ≤ t := fun t ht hb => box_le hg ht hb
    rw [nI_ltI (by omega) (by omega), show (256 : Int32) = nI 256 from rfl, nI_leI (by omega) (by omega)]
    refine ⟨fun c => ?_, fun c => ⟨fun c2 => absurd c2 (by omega), fun _ => ⟨vp_in_nI (by omega) (by decide), ?_⟩⟩⟩
    · have : st = g + 1 := by omega
      subst this
      have e : cb (fun t => box g t && !U t) 256 = cb (fun t => box g t && !U t) (g + 1) := by
        have := cb_tail (P := fun t => box g t && !U t) (m := g + 1) (256 - (g + 1)) (fun t q1 q2 => by
          have hb : box g t = false := by
            cases hq : box g t
            · rfl
            · have := hbx t (by omega) hq; omega
          rw [hb]; rfl)
        rw [show g + 1 + (256 - (g + 1)) = 256 by omega] at this
        exact this
      rw [← e]
      refine h s (fun t ht => ?_) hF
      rw [hK t ht]
      have : (U t || (box g t && decide (t < g + 1))) = (U t || box g t) := by
        cases hq : box g t
        · rfl
        · have := hbx t ht hq
          rw [decide_eq_true (p := t < g + 1) (by omega)]; rfl
      exact congrArg b2I this
    · rw [nI_clamp (n := st) (by omega), hK.z (by omega)]
      have hlt : (decide (st < st)) = false := decide_eq_false (by omega)
      have next : ∀ (n' : Int32) (s' : St), n' = nI (cb (fun t => box g t && !U t) (st + 1)) → MK s' (fun t => U t || (box g t && decide (t < st + 1))) → (∀ q, q ≠ 1 → s' q = sV q) → R (n', nI st + 1, s') := by
        intro n' s' e1 e2 e3
        rw [nI_1]
        refine hR _ ⟨st + 1, s', by omega, by omega, by rw [e1], e2, e3⟩ ?_
        dsimp only; rw [nI_clamp (by omega), nI_clamp (by omega)]; omega
      have same : (box g st && !U st) = false → R (nI (cb (fun t => box g t && !U t) st), nI st + 1, s) := by
        intro hz
        refine next _ s ?_ (fun t ht => ?_) hF
        · simp only [cb]; rw [hz]; rfl
        · rw [hK t ht]
          have : (U t || (box g t && decide (t < st))) = (U t || (box g t && decide (t < st + 1))) := by
            by_cases e : t = st
            · subst e
              rw [hlt, decide_eq_true (p := t < t + 1) (by omega)]
              cases hu : U t
              · rw [hu] at hz; simp at hz; rw [hz]; rfl
              · rfl
            · have : decide (t < st) = decide (t < st + 1) := decide_eq_decide.mpr ⟨fun _ => by omega, fun _ => by omega⟩
              rw [this]
          exact congrArg b2I this
      refine ⟨fun c3 => ?_, fun c3 => ?_⟩
      · have hu : U st = false := by
          cases hq : U st
          · rfl
          · rw [hq] at c3; simp at c3
        refine sp_isWithin hg (by omega) (by omega) ?_
        rw [bi_0]
        refine ⟨fun c4 => ?_, fun c4 => ⟨vp_in_nI (by omega) (by decide), ?_⟩⟩
        · rintro _ rfl
          exact same (by rw [c4]; rfl)
        · rintro _ rfl _ rfl _ rfl
          have hcl : (nI st).toNatClampNeg = st := nI_clamp (by omega)
          refine next _ _ ?_ (fun t ht => ?_) (fun q hq => by rw [ua_n hq]; exact hF q hq)
          · simp only [cb]
            rw [bt_of c4, hu, nI_1]; rfl
          · rw [ua_s, hcl]
            by_cases e : t = st
            · subst e
              rw [pk_us]
              show (2 : Int32) = b2I (U t || (box g t && decide (t < t + 1)))
              rw [bt_of c4, decide_eq_true (p := t < t + 1) (by omega), hu]
              rfl
            · rw [pk_un e, hK t ht]
              have : decide (t < st) = decide (t < st + 1) := decide_eq_decide.mpr ⟨fun _ => by omega, fun _ => by omega⟩
              show b2I (U t || (box g t && decide (t < st))) = b2I (U t || (box g t && decide (t < st + 1)))
              rw [this]
      · rintro _ rfl
        have hb : (box g st && !(U st)) = false := by
          have : (U st || (box g st && decide (st < st))) = true := bt_of c3
          rw [hlt, Bool.and_false, Bool.or_false] at this
          rw [this]; simp
        exact same hb
  · rw [cb_zero (64 * (g / 64)) (fun t ht => by
      have hb : box g t = false := by
        cases hq : box g t
        · rfl
        · have := box_le hg (by omega) hq; omega
      rw [hb]; rfl)]
    rfl
  · intro t ht
    rw [hU t ht]
    have : (U t || (box g t && decide (t < 64 * (g / 64)))) = U t := by
      cases hq : box g t
      · simp
      · have := box_le hg ht hq
        rw [decide_eq_false (p := t < 64 * (g / 64)) (by omega)]; simp
    exact (congrArg b2I this).symm
/-- what may come next by the first c calls -/
def nx (B : BK) (M s c t : Nat) : Bool := okm B M t 3 && gtm B s t c
theorem sp_statesAfter (hO : OKb B) (hB : CB sB B) (hV : sV 0 0 = nI M) (hM3 : M ≤ 3) {s : Nat} (hs : s < 256) {K : Int32 → St → Prop} (h : ∀ s', s' 0 = sV 0 → K (nI (cb (nx B M s (bN B)) 256)) s') : wp_X6_statesAfter sV sB (nI s) K := by
  unfold wp_X6_statesAfter
  rintro _ rfl
  have hN := hO.1
  refine lp_ind (fun q => ∃ c s', c ≤ bN B ∧ q = (nI (cb (nx B M s c) 256), nI c, s') ∧ MK s' (nx B M s c) ∧ s' 0 = sV 0) (fun q => 9 - q.2.1.toNatClampNeg) ?_ _ ⟨0, uf sV 1 256 0, by omega, ?_, fun t ht => ?_, uf_n (by decide)⟩
  · rintro _ R ⟨c, s', hc, rfl, hK, hF⟩ hR
    unfold F_X6_statesAfter_13
    dsimp only
    rw [hB.1]
    constructor
    · intro c1
      have := le3 (y := c) (b := bN B) (by omega) (by omega) c1
      have : c = bN B := by omega
      subst this
      exact h s' hF
    · intro c1
      have hcN := nle3 (y := c) (b := bN B) (by omega) (by omega) c1
      obtain ⟨ef, et, ea⟩ := hB.2.2 c hcN
      have f4 := (hO.2.2 c hcN).1
      have i8 : vp_in (nI c) 8 := vp_in_nI (by omega) (by decide)
      rw [nI_clamp (n := c) (by omega), ef, show nI s >>> ((6 : Int32) &&& 31) = nI (s / 2 ^ 6) from shr_nI (k := 6) (by omega) (by decide), nI_eq (by omega) (by omega), show s / 2 ^ 6 = s / 64 from rfl]
      have next : ∀ (n' : Int32) (s2 : St), n' = nI (cb (nx B M s (c + 1)) 256) → MK s2 (nx B M s (c + 1)) → s2 0 = sV 0 → R (n', nI c + 1, s2) := by
        intro n' s2 e1 e2 e3
        rw [nI_1]
        refine hR _ ⟨c + 1, s2, by omega, by rw [e1], e2, e3⟩ ?_
        dsimp only; rw [nI_clamp (by omega), nI_clamp (by omega)]; omega
      have same : (∀ t, t < 256 → nx B M s (c + 1) t = nx B M s c t) → R (nI (cb (nx B M s c) 256), nI c + 1, s') := by
        intro he
        refine next _ s' ?_ (fun t ht => ?_) hF
        · rw [cb_congr 256 he]
        · rw [he t ht]; exact hK t ht
      refine ⟨i8, fun c2 => sp_greatestAfter hO hB (by rw [hF]; exact hV) hM3 hcN hs ?_, fun c2 => ?_⟩
      · cases e : gaf B M c s with
        | none =>
          simp only [oI]
          unfold wp_X6_markUpTo
          refine ⟨fun z => absurd z (by decide), fun _ => ?_⟩
          rintro _ rfl _ rfl
          rw [nI_p0]
          refine same (fun t ht => ?_)
          unfold nx
          simp only [gtm]
          cases hq : okm B M t 3
          · rfl
          · have : ldk B c s t 9 = false := by
              cases hl : ldk B c s t 9
              · rfl
              · exact absurd ((ldk_iff 9).mp hl) (gaf_none hO hcN c2 e t ((okm_iff ht).mp hq))
            rw [this, Bool.or_false]
        | some g =>
          obtain ⟨g1, g2, g3⟩ := gaf_some hO hM3 hcN c2 e
          simp only [oI]
          have hbx : ∀ t, t < 256 → (nx B M s c t || box g t) = nx B M s (c + 1) t := by
            intro t ht
            unfold nx
            simp only [gtm]
            have h3 := g3 t ht
            cases hq : okm B M t 3
            · have : box g t = false := by
                cases hb : box g t
                · rfl
                · have := (okm_iff ht).mpr (h3.mpr hb).1
                  rw [hq] at this; cases this
              rw [this]; rfl
            · have : ldk B c s t 9 = box g t := by
                rw [Bool.eq_iff_iff, ldk_iff, ← h3]
                exact ⟨fun z => ⟨(okm_iff ht).mp hq, z⟩, fun z => z.2⟩
              rw [this]; rfl
          refine sp_markUpTo hK g1.1 (fun s2 m1 m2 => ?_)
          rintro _ rfl _ rfl
          refine next _ s2 ?_ (fun t ht => ?_) (by rw [m2 0 (by decide)]; exact hF)
          · rw [nI_add, ← cb_or]
            rw [cb_congr 256 hbx]
          · rw [m1 t ht]
            exact congrArg b2I (hbx t ht)
      · rintro _ rfl
        refine same (fun t ht => ?_)
        unfold nx
        simp only [gtm]
        have : ldk B c s t 9 = false := by
          cases hl : ldk B c s t 9
          · rfl
          · exact absurd ((ldk_iff 9).mp hl).1 c2
        rw [this, Bool.or_false]
  · rw [cb_zero 256 (fun t ht => by unfold nx; simp only [gtm]; exact Bool.and_false _)]; rfl
  · rw [uf_s]
    unfold nx
    simp only [gtm]
    rw [Bool.and_false]
    exact if_pos ht
theorem op_next (hO : OKb B) (hB : CB sB B) (hM : MB sS B) (hV : sV 0 0 = nI M) (h9 : sS 9 0 = nI M) (hM3 : M ≤ 3) {p q r w : Int32} {K : Int32 → St → Int32 → Prop} (h : ∀ a sV', sV' 0 = sV 0 → K a sV' a) : wp_X9_next sX sT sB sD sR sK sM sJ sV sW p q r w (fun a u => wp_X10_next sS sL p q r w (fun a' => K a u a')) := by
  unfold wp_X9_next
  have bad : (∀ s, ¬ SOs B M p q r w s) → wp_X10_next sS sL p q r w (fun a' => K (-1) sV a') := by
    intro hn
    unfold wp_X10_next
    exact sp_stateOfM hO hM h9 hM3 (fun s hs => absurd hs (hn s)) (fun _ => ⟨fun z => absurd z (by decide), fun _ => h _ _ rfl⟩)
  refine sp_isActC (fun ha => ⟨fun e => absurd e (by decide), fun _ => ?_⟩) (fun ha => ⟨fun _ => bad (fun s ⟨a, x, y, z, g1, _, _, _, g, _⟩ => ha ⟨a, g1, g⟩), fun e => absurd rfl e⟩)
  obtain ⟨a, ha, rfl⟩ := ha
  refine sp_stateOfC hO hB hV hM3 ha (fun s hs => ⟨fun _ => ?_, fun z => absurd (nI_pos' (by have := hs.lt; omega)) z⟩) (fun hn => ⟨fun z => absurd z (by decide), fun _ => bad hn⟩)
  have hs256 := hs.lt
  refine sp_statesAfter hO hB hV hM3 hs256 (fun s' e0 => ?_)
  unfold wp_X10_next
  refine sp_stateOfM hO hM h9 hM3 (fun s2 hs2 => ?_) (fun hn => absurd hs (hn s))
  have := hs.uni hs2
  subst this
  refine ⟨fun _ => ?_, fun z => absurd (nI_pos' (by omega)) z⟩
  refine lp_ind (fun q => ∃ m, m ≤ 256 ∧ q = (nI (cb (nx B M s (bN B)) m), nI m)) (fun q => 256 - q.2.toNatClampNeg) ?_ _ ⟨0, by omega, rfl⟩
  rintro _ R ⟨m, hm, rfl⟩ hR
  unfold F_X10_next_24
  dsimp only
  constructor
  · intro c1
    have := le3 (y := m) (b := 256) (by omega) (by omega) c1
    have : m = 256 := by omega
    subst this
    exact h _ _ e0
  · intro c1
    have hm2 := nle3 (y := m) (b := 256) (by omega) (by omega) c1
    have next : ∀ b : Int32, b = nI (cb (nx B M s (bN B)) (m + 1)) → R (b, nI m + 1) := by
      intro b eb
      rw [nI_1]
      refine hR _ ⟨m + 1, by omega, by rw [eb]⟩ ?_
      dsimp only; rw [nI_clamp (by omega), nI_clamp (by omega)]; omega
    have z0 : ∀ n : Nat, nI n + 0 = nI n := nI_p0
    have no : nx B M s (bN B) m = false → R (nI (cb (nx B M s (bN B)) m) + 0, nI m + 1) := by
      intro e
      refine next _ ?_
      rw [z0]
      simp only [cb]
      rw [e]; rfl
    refine sp_isState hO hM h9 hM3 hm2 ?_
    rw [bi_0]
    refine ⟨fun c2 => ?_, fun c2 => sp_goesTo hO hM hs256 hm2 ?_⟩
    · rintro _ rfl _ rfl
      exact no (by unfold nx; rw [c2]; rfl)
    · rw [bi_0]
      refine ⟨fun c3 => ?_, fun c3 => ?_⟩
      · rintro _ rfl _ rfl
        exact no (by unfold nx; rw [c3, Bool.and_false])
      · rintro _ rfl _ rfl
        refine next _ ?_
        simp only [cb]
        rw [show nx B M s (bN B) m = true by unfold nx; rw [bt_of c2, bt_of c3]; rfl, nI_1]; rfl
end NEXT
