/-- an order of places as a number; whether a graph falls by it -/
def co : List Nat → Nat
  | [] => 0
  | x :: xs => x + 1 + 4 * co xs
def fol (w : Nat) : List Nat → Bool
  | [] => false
  | x :: xs => if dg w (4 * x) = 1 then fol w xs else decide (dg w (4 * x) = 2)
def L3 (l : List Nat) : Prop := l.length ≤ 3 ∧ ∀ x ∈ l, x < 3
theorem co_lt : ∀ l : List Nat, (∀ x ∈ l, x < 3) → co l < 4 ^ l.length := by
  intro l
  induction l with
  | nil => intro _; simp [co]
  | cons x xs ih =>
    intro h
    have h1 := h x (by simp)
    have h2 := ih (fun y hy => h y (by simp [hy]))
    simp only [co, List.length_cons, Nat.pow_succ]; omega
theorem L3.lt {l : List Nat} (h : L3 l) : co l < 64 := by
  have h1 := co_lt l h.2
  have h2 : 4 ^ l.length ≤ 4 ^ 3 := Nat.pow_le_pow_right (by decide) h.1
  omega
theorem sp_fallsByOrder {l : List Nat} (hl : L3 l) {w : Nat} (hw : GW w) {K : Int32 → Prop} (h : K (bi (fol w l))) : wp_X2_fallsByOrder (nI (co l)) (nI w) K := by
  unfold wp_X2_fallsByOrder
  refine lp_ind (fun q => ∃ l', L3 l' ∧ q = nI (co l') ∧ fol w l' = fol w l) (fun q => q.toNatClampNeg) ?_ _ ⟨l, hl, rfl, rfl⟩
  rintro _ R ⟨l', hl', rfl, he⟩ hR
  unfold F_X2_fallsByOrder_2
  have hlt := hl'.lt
  cases l' with
  | nil =>
    refine ⟨fun _ => ?_, fun c => absurd (by decide) c⟩
    rw [← he] at h; exact h
  | cons x xs =>
    have hx : x < 3 := hl'.2 x (by simp)
    have hxs : L3 xs := ⟨by have := hl'.1; simp at this; omega, fun y hy => hl'.2 y (by simp [hy])⟩
    have hco : co (x :: xs) = x + 1 + 4 * co xs := rfl
    refine ⟨fun c => ?_, fun _ => ?_⟩
    · have := (nI_leI (a := co (x :: xs)) (b := 0) (by omega) (by decide)).mp c
      omega
    · rw [and3 (by omega), show co (x :: xs) % 4 = x + 1 by omega, nI_sub1 (by omega)]
      rintro _ rfl
      rw [show x + 1 - 1 = x by omega]
      refine ⟨fun _ => sp_at (by have := hw.1; omega) hx hx ?_, fun c => absurd (nI_pos' (by omega)) c⟩
      unfold J_X2_fallsByOrder_26
      have hd := dg_lt w (3 * x + x)
      rw [show 3 * x + x = 4 * x by omega] at hd ⊢
      have e1 : nI (dg w (4 * x)) = (1 : Int32) ↔ dg w (4 * x) = 1 := nI_eq (b := 1) (by omega) (by decide)
      have e2 : nI (dg w (4 * x)) = (2 : Int32) ↔ dg w (4 * x) = 2 := nI_eq (b := 2) (by omega) (by decide)
      dsimp only
      rw [e1, e2]
      simp only [fol] at he
      refine ⟨fun c => ?_, fun c => ⟨fun c2 => ?_, fun c2 => ?_⟩⟩
      · rintro _ rfl
        rw [show nI (co (x :: xs)) >>> ((2 : Int32) &&& 31) = nI (co (x :: xs) / 2 ^ 2) from shr_nI (k := 2) (by omega) (by decide), show co (x :: xs) / 2 ^ 2 = co xs by omega]
        rw [if_pos c] at he
        refine hR _ ⟨xs, hxs, rfl, he⟩ ?_
        have := hxs.lt
        rw [nI_clamp (by omega), nI_clamp (by omega)]; omega
      · rw [if_neg c, decide_eq_true c2] at he
        rw [← he] at h; exact h
      · rw [if_neg c, decide_eq_false c2] at he
        rw [← he] at h; exact h
def sl1 (a : Nat) (l : List Nat) (o : Option Nd) : Bool := match o with
  | some x => !(decide (x.1 = a) && decide (x.2.1 = a)) || fol x.2.2 l
  | none => true
def slm (L : List Nd) (a : Nat) (l : List Nat) : Nat → Bool
  | 0 => true
  | m + 1 => slm L a l m && sl1 a l L[m]?
theorem slm_stop {L : List Nd} {a : Nat} {l : List Nat} {m : Nat} (h : slm L a l m = false) : ∀ d, slm L a l (m + d) = false := by
  intro d
  induction d with
  | zero => exact h
  | succ d ih => rw [← Nat.add_assoc]; simp only [slm]; rw [ih]; rfl
section SLOWC
variable {S : SG} {sK : St} {a : Nat}
theorem sp_fallsByC (hC : CG sK S) (hS : SI S) (ha : a < 4) {l : List Nat} (hl : L3 l) {K : Int32 → Prop} (h : K (bi (slm S.1 a l S.1.length))) : wp_X2_fallsBy sK (nI (co l)) (nI a) K := by
  unfold wp_X2_fallsBy
  have hlen : S.1.length ≤ 1000 := hS.1
  refine lp_ind (fun q => ∃ m, m ≤ S.1.length ∧ q = nI m ∧ slm S.1 a l m = true) (fun q => 1000 - q.toNatClampNeg) ?_ _ ⟨0, by omega, rfl, rfl⟩
  rintro _ R ⟨m, hm, rfl, he⟩ hR
  unfold F_X2_fallsBy_2
  rw [hC.1]
  constructor
  · intro c
    have := le3 (y := m) (b := S.1.length) (by omega) (by omega) c
    have : m = S.1.length := by omega
    subst this
    rw [he] at h; exact h
  · intro c
    have hml := nle3 (y := m) (b := S.1.length) (by omega) (by omega) c
    obtain ⟨x, hx⟩ : ∃ x, S.1[m]? = some x := ⟨_, List.getElem?_eq_getElem hml⟩
    have hNV : NV x := hS.2.2 x (List.mem_of_getElem? hx)
    have h1 := hNV.1
    have h2 := hNV.2.1
    have next : sl1 a l (some x) = true → R (nI m + 1) := by
      intro e
      rw [nI_1]
      refine hR _ ⟨m + 1, by omega, rfl, by simp only [slm]; rw [he, hx, e]; rfl⟩ ?_
      rw [nI_clamp (by omega), nI_clamp (by omega)]; omega
    rw [nI_clamp (n := m) (by omega), hC.2.2.1 m x hx]
    refine ⟨vp_in_nI (by omega) (by decide), ?_⟩
    rintro _ rfl
    refine sp_kfrom hNV ?_
    rw [nI_eq (by omega) (by omega)]
    refine ⟨fun c1 => sp_kto hNV ?_, fun c1 => ?_⟩
    · rw [nI_eq (by omega) (by omega)]
      refine ⟨fun c2 => sp_karcs hNV (sp_fallsByOrder hl hNV.2.2 ?_), fun c2 => ?_⟩
      · rw [bi_0]
        refine ⟨fun c3 => ?_, fun c3 => ?_⟩
        · have e : slm S.1 a l (m + 1) = false := by simp only [slm]; rw [he, hx]; simp [sl1, c1, c2, c3]
          have e2 := slm_stop e (S.1.length - (m + 1))
          rw [show m + 1 + (S.1.length - (m + 1)) = S.1.length by omega] at e2
          rw [e2] at h; exact h
        · rintro _ rfl
          exact next (by simp [sl1, bt_of c3])
      · rintro _ rfl
        exact next (by simp [sl1, c2])
    · rintro _ rfl
      exact next (by simp [sl1, c1])
end SLOWC
/-- the model's order row holds a list -/
def OR (sS : St) (l : List Nat) : Prop := ∀ k x, l[k]? = some x → sS 32 k = nI x
section SLOWM
variable {sS : St} {sL : Int64} {L : List Nd} {t a : Nat} {l : List Nat}
theorem sp_fallsByM (hp : PW sS) (hl : L3 l) (ho : OR sS l) {w : Nat} (hw : GW w) {K : Int32 → Prop} (h : K (bi (fol w l))) : wp_X10_fallsBy sS sL (nI (gn w)) (nI l.length) K := by
  unfold wp_X10_fallsBy
  have hll := hl.1
  refine lp_ind (fun q => ∃ k, k ≤ l.length ∧ q = nI k ∧ fol w (l.drop k) = fol w l) (fun q => 3 - q.toNatClampNeg) ?_ _ ⟨0, by omega, rfl, by simp⟩
  rintro _ R ⟨k, hk, rfl, he⟩ hR
  unfold F_X10_fallsBy_2
  constructor
  · intro c
    have := le3 (y := k) (b := l.length) (by omega) (by omega) c
    rw [List.drop_eq_nil_of_le this] at he
    rw [← he] at h; exact h
  · intro c
    have hkl := nle3 (y := k) (b := l.length) (by omega) (by omega) c
    have hx3 : l[k] < 3 := hl.2 _ (List.getElem_mem hkl)
    have ex := ho k l[k] (List.getElem?_eq_getElem hkl)
    have i3 : vp_in (nI k) 3 := vp_in_nI (by omega) (by decide)
    have hgl := gn_lt hw
    rw [nI_clamp (n := k) (by omega), ex]
    rw [List.drop_eq_getElem_cons hkl] at he
    simp only [fol] at he
    refine ⟨i3, i3, sp_digit hp (by omega) hx3 hx3 ?_⟩
    rw [gn_dig hw _ (by omega), show 3 * l[k] + l[k] = 4 * l[k] by omega]
    have hd := dg_lt w (4 * l[k])
    have e1 : nI (dg w (4 * l[k])) = (1 : Int32) ↔ dg w (4 * l[k]) = 1 := nI_eq (b := 1) (by omega) (by decide)
    have e2 : nI (dg w (4 * l[k])) = (2 : Int32) ↔ dg w (4 * l[k]) = 2 := nI_eq (b := 2) (by omega) (by decide)
    dsimp only
    rw [e1, e2]
    refine ⟨fun c1 => ?_, fun c1 => ⟨fun c2 => ?_, fun c2 => ?_⟩⟩
    · rintro _ rfl
      rw [if_pos c1] at he
      rw [nI_1]
      refine hR _ ⟨k + 1, by omega, rfl, he⟩ ?_
      rw [nI_clamp (by omega), nI_clamp (by omega)]; omega
    · rw [if_neg c1, decide_eq_true c2] at he
      rw [← he] at h; exact h
    · rw [if_neg c1, decide_eq_false c2] at he
      rw [← he] at h; exact h
theorem sp_isSlow (hp : PW sS) (hG : MG sS L t) (hS : SI (L, false)) (ha : a < 4) (hl : L3 l) (ho : OR sS l) {K : Int32 → Prop} (h : K (bi (slm L a l L.length))) : wp_X10_isSlow sS sL (nI a) (nI l.length) K := by
  unfold wp_X10_isSlow
  have hlen : L.length ≤ 1000 := hS.1
  refine lp_ind (fun q => ∃ m, m ≤ L.length ∧ q = (bi (slm L a l m), nI m)) (fun q => 1000 - q.2.toNatClampNeg) ?_ _ ⟨0, by omega, rfl⟩
  rintro _ R ⟨m, hm, rfl⟩ hR
  unfold F_X10_isSlow_5
  dsimp only
  rw [hG.1, bi_0]
  constructor
  · intro c
    have := le3 (y := m) (b := L.length) (by omega) (by omega) c
    have : m = L.length := by omega
    subst this
    exact ⟨bi_zb _, h⟩
  · intro c
    have hml := nle3 (y := m) (b := L.length) (by omega) (by omega) c
    refine ⟨fun c2 => ⟨bi_zb _, ?_⟩, fun c2 => ?_⟩
    · have e := slm_stop c2 (L.length - m)
      rw [show m + (L.length - m) = L.length by omega] at e
      rw [e] at h; rw [c2]; exact h
    · obtain ⟨x, hx⟩ : ∃ x, L[m]? = some x := ⟨_, List.getElem?_eq_getElem hml⟩
      have hNV : NV x := hS.2.2 x (List.mem_of_getElem? hx)
      have h1 := hNV.1
      have h2 := hNV.2.1
      have im : vp_in (nI m) 1000 := vp_in_nI (by omega) (by decide)
      obtain ⟨g1, g2, g3⟩ := hG.2.1 m x hx
      have next : ∀ b : Int32, b = bi (sl1 a l (some x)) → R (b, nI m + 1) := by
        intro b eb
        rw [nI_1]
        refine hR _ ⟨m + 1, by omega, by rw [eb]; simp only [slm]; rw [bt_of c2, hx]; rfl⟩ ?_
        dsimp only; rw [nI_clamp (by omega), nI_clamp (by omega)]; omega
      rw [nI_clamp (n := m) (by omega), g1, g2, g3, nI_eq (by omega) (by omega), nI_eq (by omega) (by omega)]
      refine ⟨im, fun c3 => ⟨im, fun c4 => ⟨im, sp_fallsByM hp hl ho hNV.2.2 ?_⟩, fun c4 => ?_⟩, fun c3 => ?_⟩
      · rw [bi_0]
        refine ⟨fun c5 => ?_, fun c5 => ?_⟩
        · rintro _ rfl
          exact next _ (by simp [sl1, c3, c4, c5]; rfl)
        · rintro _ rfl
          exact next _ (by simp [sl1, bt_of c5]; rfl)
      · rintro _ rfl
        exact next _ (by simp [sl1, c4]; rfl)
      · rintro _ rfl
        exact next _ (by simp [sl1, c3]; rfl)
theorem nI_m1 (a : Int32) : a + (-1) = a - 1 := (Int32.sub_eq_add_neg a 1).symm
/-- the number of the order that the model has found -/
theorem sp_slow247 (hl : L3 l) (ho : OR sS l) {K : Int32 → St → Prop} (h : K (nI (co l)) sS) : Lp (F_X10_slow_247 sS K) ((0 : Int32), nI l.length - 1) := by
  have hll := hl.1
  refine lp_ind (fun q => ∃ k, k ≤ l.length ∧ q = (nI (co (l.drop k)), nI k - 1)) (fun q => (q.2 + 1).toNatClampNeg) ?_ _ ⟨l.length, by omega, by rw [List.drop_eq_nil_of_le (Nat.le_refl _)]; rfl⟩
  rintro _ R ⟨k, hk, rfl⟩ hR
  unfold F_X10_slow_247
  dsimp only
  rcases Nat.eq_zero_or_pos k with q | q
  · subst q
    refine ⟨fun _ => ?_, fun c => absurd (by decide) c⟩
    rw [List.drop_zero]; exact h
  · rw [nI_sub1 q]
    refine ⟨fun c => absurd c (nI_pos (by omega)), fun _ => ⟨vp_in_nI (by omega) (by decide), ?_⟩⟩
    have hkl : k - 1 < l.length := by omega
    have ex := ho (k - 1) l[k - 1] (List.getElem?_eq_getElem hkl)
    have hx3 : l[k - 1] < 3 := hl.2 _ (List.getElem_mem hkl)
    have e := List.drop_eq_getElem_cons hkl
    rw [show k - 1 + 1 = k by omega] at e
    rw [nI_clamp (n := k - 1) (by omega), ex]
    rintro _ rfl _ rfl
    have e2 : (4 : Int32) * nI (co (l.drop k)) + nI l[k - 1] + 1 = nI (co (l.drop (k - 1))) := by
      rw [e, show (4 : Int32) * nI (co (l.drop k)) = nI (4 * co (l.drop k)) by rw [← pk_mul]; rfl, nI_add, nI_1]
      simp only [co]
      congr 1; omega
    rw [e2, nI_m1]
    refine hR _ ⟨k - 1, by omega, rfl⟩ ?_
    dsimp only
    rw [Int32.sub_add_cancel, Int32.sub_add_cancel, nI_clamp (by omega), nI_clamp (by omega)]; omega
end SLOWM
