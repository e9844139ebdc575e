/-- a place from which an arc goes to one of the first m places that are in the set -/
def ldp (w x s : Nat) : Nat → Bool
  | 0 => false
  | m + 1 => ldp w x s m || (decide (dg w (3 * x + m) ≠ 0) && decide (s / 2 ^ m % 2 = 1))
theorem bit_nI {s y : Nat} (hs : s < 2 ^ 31) (hy : y < 32) : (nI s >>> (nI y &&& 31)) &&& (1 : Int32) = nI (s / 2 ^ y % 2) := by
  rw [shr_nI hs hy, and1 (by have := Nat.div_le_self s (2 ^ y); omega)]
theorem sp_leadsTo {w x s : Nat} (hw : w < 262144) (hx : x < 3) (hs : s < 8) {K : Int32 → Prop} (h : K (bi (ldp w x s 3))) : wp_X0_leadsTo (nI w) (nI x) (nI s) K := by
  unfold wp_X0_leadsTo
  refine lp_ind (fun q => ∃ m, m ≤ 3 ∧ q = nI m ∧ ldp w x s m = false) (fun q => 3 - q.toNatClampNeg) ?_ _ ⟨0, by omega, rfl, rfl⟩
  rintro _ R ⟨m, hm, rfl, hf⟩ hR
  unfold F_X0_leadsTo_2
  constructor
  · intro c
    have := le3 (y := m) (b := 3) (by omega) (by omega) c
    have : m = 3 := by omega
    subst this
    rw [hf] at h
    exact h
  · intro c
    have hm9 := nle3 (y := m) (b := 3) (by omega) (by omega) c
    refine sp_at (by omega) hx hm9 ?_
    have hd := dg_lt w (3 * x + m)
    rw [nI_z (by omega), bit_nI (by omega) (by omega), nI_z (by omega)]
    have hmu : ldp w x s (m + 1) = false → R (nI m + 1) := by
      intro ea
      refine hR _ ⟨m + 1, by omega, by rw [nI_1], ea⟩ ?_
      rw [nI_1, nI_clamp (by omega), nI_clamp (by omega)]; omega
    refine ⟨fun c2 => ?_, fun c2 => ⟨fun c3 => ?_, fun c3 => ?_⟩⟩
    · rintro _ rfl
      exact hmu (by simp only [ldp, hf]; simp [c2])
    · rintro _ rfl
      exact hmu (by simp only [ldp, hf]; simp [c3])
    · have ht : ldp w x s (m + 1) = true := by
        have : s / 2 ^ m % 2 = 1 := by omega
        simp only [ldp, hf]; simp [c2, this]
      have h3 : ldp w x s 3 = true := by
        have up1 : ∀ k, ldp w x s k = true → ldp w x s (k + 1) = true := fun k hk => by simp only [ldp, hk]; rfl
        match m, hm9, ht with
        | 0, _, ht => exact up1 2 (up1 1 ht)
        | 1, _, ht => exact up1 2 ht
        | 2, _, ht => exact ht
        | m + 3, g, _ => exact absurd g (by omega)
      rw [h3] at h
      exact h
/-- the places below m that lead to the set, as a set -/
def nxa (w s : Nat) : Nat → Nat
  | 0 => 0
  | m + 1 => nxa w s m + (if ldp w m s 3 then 2 ^ m else 0)
theorem nxa_lt (w s m : Nat) : nxa w s m < 2 ^ m := by
  induction m with
  | zero => simp [nxa]
  | succ m ih => simp only [nxa, Nat.pow_succ]; split <;> omega
theorem orbit : ∀ m, m < 3 → ∀ a, a < 2 ^ m → nI a ||| ((1 : Int32) <<< (nI m &&& 31)) = nI (a + 2 ^ m) ∧ nI a ||| 0 = nI a := by decide
def ths (w : Nat) : Nat → Nat
  | 0 => 7
  | k + 1 => nxa w (ths w k) 3
theorem ths_lt (w k : Nat) : ths w k < 8 := by
  cases k with
  | zero => simp [ths]
  | succ k => exact nxa_lt w _ 3
theorem sp_threads {w : Nat} (hw : w < 262144) {K : Int32 → Prop} (h : K (nI (ths w 3))) : wp_X0_threads (nI w) K := by
  unfold wp_X0_threads
  refine lp_ind (fun q => ∃ k, k ≤ 3 ∧ q = (nI (ths w k), nI k)) (fun q => 3 - q.2.toNatClampNeg) ?_ _ ⟨0, by omega, rfl⟩
  rintro _ R ⟨k, hk, rfl⟩ hR
  unfold F_X0_threads_5
  dsimp only
  constructor
  · intro c
    have := le3 (y := k) (b := 3) (by omega) (by omega) c
    have : k = 3 := by omega
    subst this
    exact h
  · intro c
    have hk9 := nle3 (y := k) (b := 3) (by omega) (by omega) c
    have hs := ths_lt w k
    refine lp_ind (fun q => ∃ m, m ≤ 3 ∧ q = (nI (nxa w (ths w k) m), nI m)) (fun q => 3 - q.2.toNatClampNeg) ?_ _ ⟨0, by omega, rfl⟩
    rintro _ R2 ⟨m, hm, rfl⟩ hR2
    unfold F_X0_threads_15
    dsimp only
    constructor
    · intro c2
      have := le3 (y := m) (b := 3) (by omega) (by omega) c2
      have : m = 3 := by omega
      subst this
      rintro _ rfl
      rw [nI_1]
      refine hR _ ⟨k + 1, by omega, rfl⟩ ?_
      dsimp only; rw [nI_clamp (by omega), nI_clamp (by omega)]; omega
    · intro c2
      have hm9 := nle3 (y := m) (b := 3) (by omega) (by omega) c2
      refine sp_leadsTo hw hm9 hs ?_
      rw [bi_0]
      have ha := nxa_lt w (ths w k) m
      constructor
      · intro c3
        rintro _ rfl
        rw [nI_1]
        refine hR2 _ ⟨m + 1, by omega, by simp only [nxa]; rw [c3]; rfl⟩ ?_
        dsimp only; rw [nI_clamp (by omega), nI_clamp (by omega)]; omega
      · intro c3
        have c4 : ldp w m (ths w k) 3 = true := by cases hq : ldp w m (ths w k) 3; exact absurd hq c3; rfl
        rintro _ rfl _ rfl
        rw [nI_1, (orbit m hm9 _ ha).1]
        refine hR2 _ ⟨m + 1, by omega, by simp only [nxa]; rw [c4]; rfl⟩ ?_
        dsimp only; rw [nI_clamp (by omega), nI_clamp (by omega)]; omega
def hlb (w : Nat) : Bool := decide (dg w 0 = 2) || (decide (dg w 4 = 2) || decide (dg w 8 = 2))
theorem hlb_iff (w : Nat) : hlb w = true ↔ hl w := by simp [hlb, hl]
theorem sp_hasLessB {w : Nat} (hw : GW w) {K : Int32 → Prop} (h : K (bi (hlb w))) : wp_X0_hasLessToItself (nI w) K := by
  refine sp_hasLess hw (fun q => ?_) (fun q => ?_)
  · rw [(hlb_iff w).mpr q] at h; exact h
  · have : hlb w = false := by cases hq : hlb w; rfl; exact absurd ((hlb_iff w).mp hq) q
    rw [this] at h; exact h
/-- whether it falls: LESS from a place to itself in once, twice or three times -/
def flb (w : Nat) : Bool := hlb w || (hlb (jw w w) || hlb (jw (jw w w) w))
theorem sp_fallsC {w : Nat} (hw : GW w) {K : Int32 → Prop} (h : K (bi (flb w))) : wp_X0_falls (nI w) K := by
  unfold wp_X0_falls
  refine sp_join hw hw (sp_hasLessB hw ?_)
  unfold flb at h
  rw [bi_0]
  refine ⟨fun c => sp_hasLessB (jw_GW _ _) ?_, fun c => ?_⟩
  · rw [c] at h
    rw [bi_0]
    refine ⟨fun c2 => sp_join (jw_GW _ _) hw (sp_hasLessB (jw_GW _ _) ?_), fun c2 => ?_⟩
    · rw [c2] at h
      rw [bi_0]
      refine ⟨fun c3 => ?_, fun c3 => ?_⟩
      · rw [c3] at h; exact h
      · have c4 : hlb (jw (jw w w) w) = true := by cases hq : hlb (jw (jw w w) w); exact absurd hq c3; rfl
        rw [c4] at h; exact h
    · have c4 : hlb (jw w w) = true := by cases hq : hlb (jw w w); exact absurd hq c2; rfl
      rw [c4] at h; exact h
  · have c4 : hlb w = true := by cases hq : hlb w; exact absurd hq c; rfl
    rw [c4] at h; exact h
/-- LESS to itself at the first m places -/
def hlp (w : Nat) : Nat → Bool
  | 0 => false
  | m + 1 => hlp w m || decide (dg w (4 * m) = 2)
theorem hlp_3 (w : Nat) : hlp w 3 = hlb w := by simp [hlp, hlb, Bool.or_assoc]
def wyf (w : Nat) : Nat → Nat
  | 0 => w
  | k + 1 => jw (wyf w k) w
theorem wyf_GW {w : Nat} (hw : GW w) (k : Nat) : GW (wyf w k) := by
  cases k with
  | zero => exact hw
  | succ k => exact jw_GW _ _
def fbf (w : Nat) : Nat → Bool
  | 0 => false
  | k + 1 => fbf w k || hlb (wyf w k)
theorem fbf_3 (w : Nat) : fbf w 3 = flb w := by simp [fbf, flb, wyf, Bool.or_assoc]
theorem sp_fallsM {sS : St} {sL : Int64} (hp : PW sS) {w : Nat} (hw : GW w) {K : Int32 → Prop} (h : K (bi (flb w))) : wp_X10_falls sS sL (nI (gn w)) K := by
  unfold wp_X10_falls
  refine lp_ind (fun q => ∃ k, k ≤ 3 ∧ q = (bi (fbf w k), nI (gn (wyf w k)), nI (k + 1))) (fun q => 4 - q.2.2.toNatClampNeg) ?_ _ ⟨0, by omega, rfl⟩
  rintro _ R ⟨k, hk, rfl⟩ hR
  unfold F_X10_falls_7
  dsimp only
  have hg := wyf_GW hw k
  have hgl := gn_lt hg
  constructor
  · intro c
    have := (nI_ltI (a := 3) (b := k + 1) (by decide) (by omega)).mp c
    have : k = 3 := by omega
    subst this
    rw [fbf_3]
    exact ⟨bi_zb _, h⟩
  · intro c
    have hk3 : k < 3 := by
      rcases Nat.lt_or_ge k 3 with q | q
      · exact q
      · exact absurd ((nI_ltI (a := 3) (b := k + 1) (by decide) (by omega)).mpr (by omega)) c
    refine lp_ind (fun q => ∃ m, m ≤ 3 ∧ q = (bi (fbf w k || hlp (wyf w k) m), nI m)) (fun q => 3 - q.2.toNatClampNeg) ?_ _ ⟨0, by omega, by simp [hlp]; rfl⟩
    rintro _ R2 ⟨m, hm, rfl⟩ hR2
    unfold F_X10_falls_16
    dsimp only
    constructor
    · intro c2
      have := le3 (y := m) (b := 3) (by omega) (by omega) c2
      have : m = 3 := by omega
      subst this
      rw [hlp_3]
      refine sp_put2 hp hg hw ?_
      rintro _ rfl
      rw [nI_1]
      refine hR _ ⟨k + 1, by omega, rfl⟩ ?_
      dsimp only; rw [nI_clamp (by omega), nI_clamp (by omega)]; omega
    · intro c2
      have hm9 := nle3 (y := m) (b := 3) (by omega) (by omega) c2
      have hmu : ∀ b : Int32, b = bi (fbf w k || hlp (wyf w k) (m + 1)) → R2 (b, nI m + 1) := by
        intro b eb
        rw [nI_1]
        refine hR2 _ ⟨m + 1, by omega, by rw [eb]⟩ ?_
        dsimp only; rw [nI_clamp (by omega), nI_clamp (by omega)]; omega
      rw [bi_0]
      refine ⟨fun c3 => sp_digit hp (by omega) hm9 hm9 ?_, fun c3 => ?_⟩
      · rw [gn_dig hg _ (by omega), show 3 * m + m = 4 * m by omega]
        have hd := dg_lt (wyf w k) (4 * m)
        have e2 : nI (dg (wyf w k) (4 * m)) = (2 : Int32) ↔ dg (wyf w k) (4 * m) = 2 := nI_eq (b := 2) (by omega) (by decide)
        rw [e2]
        rw [Bool.or_eq_false_iff] at c3
        refine ⟨fun c4 => ?_, fun c4 => ?_⟩
        · rintro _ rfl
          exact hmu _ (by simp [hlp, c3.1, c3.2, c4]; rfl)
        · rintro _ rfl
          exact hmu _ (by simp [hlp, c3.1, c3.2, c4]; rfl)
      · have c4 : (fbf w k || hlp (wyf w k) m) = true := by cases hq : (fbf w k || hlp (wyf w k) m); exact absurd hq c3; rfl
        rintro _ rfl
        refine hmu _ ?_
        have : (fbf w k || hlp (wyf w k) (m + 1)) = true := by
          simp only [hlp]
          rw [← Bool.or_assoc, c4]; rfl
        rw [this]; rfl
