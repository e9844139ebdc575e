/-- g is f in another order -/
def PMU (n : Nat) (f g : Nat → Int32) : Prop := ∃ π ρ : Nat → Nat, (∀ i, i < n → π i < n ∧ ρ (π i) = i) ∧ (∀ i, i < n → ρ i < n ∧ π (ρ i) = i) ∧ ∀ i, i < n → g i = f (π i)
theorem PMU.rf {n : Nat} {f : Nat → Int32} : PMU n f f := ⟨id, id, fun i h => ⟨h, rfl⟩, fun i h => ⟨h, rfl⟩, fun _ _ => rfl⟩
def sw (i j k : Nat) : Nat := if k = i then j else if k = j then i else k
theorem sw_sw (i j k : Nat) : sw i j (sw i j k) = k := by
  unfold sw
  by_cases h1 : k = i
  · by_cases h2 : j = i
    · simp [h1, h2]
    · simp [h1, h2]
  · by_cases h2 : k = j
    · simp [h2]
    · simp [h1, h2]
theorem sw_lt {n i j k : Nat} (hi : i < n) (hj : j < n) (hk : k < n) : sw i j k < n := by
  unfold sw; split
  · exact hj
  · split
    · exact hi
    · exact hk
theorem PMU.swap {n i j : Nat} {f g g' : Nat → Int32} (h : PMU n f g) (hi : i < n) (hj : j < n) (e : ∀ k, k < n → g' k = g (sw i j k)) : PMU n f g' := by
  obtain ⟨π, ρ, h1, h2, h3⟩ := h
  refine ⟨fun k => π (sw i j k), fun k => sw i j (ρ k), fun k hk => ?_, fun k hk => ?_, fun k hk => ?_⟩
  · obtain ⟨a, b⟩ := h1 _ (sw_lt hi hj hk)
    exact ⟨a, by simp only; rw [b, sw_sw]⟩
  · obtain ⟨a, b⟩ := h2 k hk
    exact ⟨sw_lt hi hj a, by simp only; rw [sw_sw, b]⟩
  · rw [e k hk, h3 _ (sw_lt hi hj hk)]
/-- sorted up to the i-th, the place at left out -/
def SDX (h : Nat → Int32) (n at_ : Nat) (key : Int32) : Prop := (∀ a b, a < b → b < n → a ≠ at_ → b ≠ at_ → (h a).toInt ≤ (h b).toInt) ∧ ∀ b, at_ < b → b < n → key.toInt ≤ (h b).toInt
def SDD (h : Nat → Int32) (n : Nat) : Prop := ∀ a b, a < b → b < n → (h a).toInt ≤ (h b).toInt
theorem sub_nI {a b : Nat} (h : b ≤ a) : nI a - nI b = nI (a - b) := pk_sub h
section SORT
variable {n : Nat} {f0 : Nat → Int32} {sK : St}
/-- all but the row stays -/
def F4 (s s' : St) : Prop := ∀ q, q ≠ 4 → s' q = s q
theorem sp_sort20 {g : Nat} (hg : 0 < g) (hgb : g < 1000) (hn : n ≤ 1000) {i : Nat} (hi : i < n) {key : Int32} {s0 : St} (h0 : PMU n f0 (s0 4)) (hF0 : F4 sK s0) (hk : s0 4 i = key) (hs : g = 1 → SDD (s0 4) i) {E : Int32 × St → Prop} (h : ∀ a s, a < n → F4 sK s → PMU n f0 (upd (s 4) a key) → (g = 1 → SDD (upd (s 4) a key) (i + 1)) → E (nI a, s)) : Lp (F_X2_sortByGap_20 (nI g) key E) (nI i, s0) := by
  have e0 : upd (s0 4) i key = s0 4 := by
    funext k
    by_cases z : k = i
    · subst z; rw [pk_us]; exact hk.symm
    · rw [pk_un z]
  refine lp_ind (fun q => ∃ a s, a ≤ i ∧ q = (nI a, s) ∧ F4 sK s ∧ PMU n f0 (upd (s 4) a key) ∧ (g = 1 → SDX (s 4) (i + 1) a key)) (fun q => q.1.toNatClampNeg) ?_ _ ⟨i, s0, by omega, rfl, hF0, by rw [e0]; exact h0, fun e => ⟨fun a b h1 h2 h3 h4 => hs e a b h1 (by omega), fun b h1 h2 => absurd h1 (by omega)⟩⟩
  rintro _ R ⟨a, s, ha, rfl, hF, hP, hX⟩ hR
  unfold F_X2_sortByGap_20
  dsimp only
  rw [nI_ltI (by omega) (by omega)]
  have fin : (a < g ∨ (s 4 (a - g)).toInt ≤ key.toInt) → E (nI a, s) := by
    intro hor
    refine h a s (by omega) hF hP (fun e => ?_)
    obtain ⟨x1, x2⟩ := hX e
    intro c d hcd hd
    by_cases zc : c = a
    · subst zc
      rw [pk_us, pk_un (by omega)]
      exact x2 d hcd hd
    · rw [pk_un zc]
      by_cases zd : d = a
      · subst zd
        rw [pk_us]
        rcases hor with z | z
        · omega
        · subst e
          by_cases zz : c = d - 1
          · rw [zz]; exact z
          · have := x1 c (d - 1) (by omega) (by omega) (by omega) (by omega)
            omega
      · rw [pk_un zd]
        exact x1 c d hcd hd zc zd
  refine ⟨fun c => fin (Or.inl c), fun c => ?_⟩
  rw [sub_nI (by omega)]
  have iv : vp_in (nI (a - g)) 1000 := vp_in_nI (by omega) (by decide)
  rw [nI_clamp (n := a - g) (by omega), ile]
  refine ⟨iv, fun c2 => fin (Or.inr c2), fun c2 => ⟨iv, vp_in_nI (by omega) (by decide), ?_⟩⟩
  rintro _ rfl _ rfl
  have hac : (nI a).toNatClampNeg = a := nI_clamp (by omega)
  refine hR _ ⟨a - g, _, by omega, rfl, fun q hq => by rw [ua_n hq]; exact hF q hq, ?_, fun e => ?_⟩ ?_
  · rw [ua_s, hac]
    refine hP.swap (i := a) (j := a - g) (by omega) (by omega) (fun k hk => ?_)
    unfold sw
    by_cases z1 : k = a
    · subst z1
      rw [if_pos rfl, pk_un (by omega), pk_us, pk_un (by omega)]
    · rw [if_neg z1]
      by_cases z2 : k = a - g
      · rw [if_pos z2, z2, pk_us, pk_us]
      · rw [if_neg z2, pk_un z2, pk_un z1, pk_un z1]
  · obtain ⟨x1, x2⟩ := hX e
    subst e
    rw [ua_s, hac]
    refine ⟨fun c d h1 h2 h3 h4 => ?_, fun d h1 h2 => ?_⟩
    · by_cases zc : c = a
      · subst zc
        rw [pk_us, pk_un (by omega)]
        exact x1 _ _ (by omega) h2 (by omega) (by omega)
      · rw [pk_un zc]
        by_cases zd : d = a
        · subst zd
          rw [pk_us]
          exact x1 _ _ (by omega) (by omega) zc (by omega)
        · rw [pk_un zd]; exact x1 c d h1 h2 zc zd
    · by_cases zd : d = a
      · subst zd; rw [pk_us]; omega
      · rw [pk_un zd]; exact x2 d (by omega) h2
  · dsimp only; rw [nI_clamp (by omega), nI_clamp (by omega)]; omega
theorem sp_sortByGap {g : Nat} (hg : 0 < g) (hgb : g < 1000) (hn : n ≤ 1000) (h7 : sK 7 0 = nI n) (h0 : PMU n f0 (sK 4)) {K : St → Prop} (h : ∀ s, F4 sK s → PMU n f0 (s 4) → (g = 1 → SDD (s 4) n) → K s) : wp_X2_sortByGap sK (nI g) K := by
  unfold wp_X2_sortByGap
  refine lp_ind (fun q => ∃ i s, q = (nI i, s) ∧ i < 2000 ∧ g ≤ i ∧ F4 sK s ∧ PMU n f0 (s 4) ∧ (g = 1 → SDD (s 4) i)) (fun q => 2000 - q.1.toNatClampNeg) ?_ _ ⟨g, sK, rfl, by omega, by omega, fun _ _ => rfl, h0, fun e => fun a b h1 h2 => by omega⟩
  rintro _ R ⟨i, s, rfl, hi, hgi, hF, hP, hS⟩ hR
  unfold F_X2_sortByGap_2
  dsimp only
  rw [hF 7 (by decide), h7, nI_leI (by omega) (by omega)]
  refine ⟨fun c => h s hF hP (fun e a b h1 h2 => hS e a b h1 (by omega)), fun c => ⟨vp_in_nI (by omega) (by decide), ?_⟩⟩
  rw [nI_clamp (n := i) (by omega)]
  rintro _ rfl
  refine sp_sort20 hg hgb hn (i := i) (by omega) hP hF rfl hS (fun a s1 ha hF1 hP1 hS1 => ⟨vp_in_nI (by omega) (by decide), ?_⟩)
  rintro _ rfl _ rfl
  dsimp only
  rw [nI_1]
  have hac : (nI a).toNatClampNeg = a := nI_clamp (by omega)
  refine hR _ ⟨i + 1, _, rfl, by omega, by omega, fun q hq => by rw [ua_n hq]; exact hF1 q hq, by rw [ua_s, hac]; exact hP1, fun e => by rw [ua_s, hac]; exact hS1 e⟩ ?_
  dsimp only; rw [nI_clamp (by omega), nI_clamp (by omega)]; omega
theorem gap_ok : ∀ j, j < 8 → ∃ g, GAP j = nI g ∧ 0 < g ∧ g < 1000 ∧ (j = 7 → g = 1) := by
  intro j hj
  have : ∀ j, j < 8 → GAP j = nI (([701, 301, 132, 57, 23, 10, 4, 1] : List Nat).getD j 0) ∧ 0 < ([701, 301, 132, 57, 23, 10, 4, 1] : List Nat).getD j 0 ∧ ([701, 301, 132, 57, 23, 10, 4, 1] : List Nat).getD j 0 < 1000 ∧ (j = 7 → ([701, 301, 132, 57, 23, 10, 4, 1] : List Nat).getD j 0 = 1) := by decide
  exact ⟨_, this j hj⟩
end SORT
theorem perm_of {L : List Nd} (hL : L.Nodup) {π ρ : Nat → Nat} (h1 : ∀ i, i < L.length → π i < L.length ∧ ρ (π i) = i) (h2 : ∀ i, i < L.length → ρ i < L.length ∧ π (ρ i) = i) : ∃ M : List Nd, M.Perm L ∧ M.length = L.length ∧ ∀ i, i < L.length → M[i]? = L[π i]? := by
  refine ⟨(List.range L.length).map (fun i => L.getD (π i) (0, 0, 0)), ?_, by simp, fun i hi => ?_⟩
  · rw [List.perm_ext_iff_of_nodup _ hL]
    · intro x
      rw [List.mem_map]
      constructor
      · rintro ⟨i, hi, rfl⟩
        have hi' := List.mem_range.mp hi
        have h := (h1 i hi').1
        rw [List.getD_eq_getElem?_getD, List.getElem?_eq_getElem h]
        exact List.getElem_mem h
      · intro hx
        obtain ⟨j, hj⟩ := List.getElem?_of_mem hx
        have hjl := (List.getElem?_eq_some_iff.mp hj).1
        obtain ⟨a, b⟩ := h2 j hjl
        refine ⟨ρ j, List.mem_range.mpr a, ?_⟩
        rw [b, List.getD_eq_getElem?_getD, hj]; rfl
    · unfold List.Nodup
      rw [List.pairwise_iff_getElem]
      intro i j hi hj hij
      simp at hi hj
      have a := h1 i hi
      have b := h1 j hj
      simp only [List.getElem_map, List.getElem_range]
      rw [List.getD_eq_getElem?_getD, List.getD_eq_getElem?_getD, List.getElem?_eq_getElem a.1, List.getElem?_eq_getElem b.1]
      simp only [Option.getD_some]
      intro e
      have hne : π i ≠ π j := fun z => by rw [z, b.2] at a; omega
      exact hne ((List.getElem_inj hL).mp e)
  · have a := h1 i hi
    rw [List.getElem?_map, List.getElem?_range hi]
    simp only [Option.map_some]
    rw [List.getD_eq_getElem?_getD, List.getElem?_eq_getElem a.1]
    rfl
theorem SRT_of {f0 g : Nat → Int32} {L : List Nd} (hS : SI (L, false)) (h0 : ∀ i x, L[i]? = some x → f0 i = nI (key x)) (hP : PMU L.length f0 g) (hs : SDD g L.length) : SRT g L := by
  obtain ⟨π, ρ, h1, h2, h3⟩ := hP
  obtain ⟨M, m1, m2, m3⟩ := perm_of hS.2.1 h1 h2
  have hg : ∀ i x, M[i]? = some x → g i = nI (key x) := by
    intro i x hx
    have hi := (List.getElem?_eq_some_iff.mp hx).1
    rw [m2] at hi
    rw [m3 i hi] at hx
    rw [h3 i hi]; exact h0 _ x hx
  refine ⟨M, m1, ?_, hg⟩
  have hnd : M.Nodup := m1.nodup_iff.mpr hS.2.1
  rw [List.pairwise_iff_getElem]
  intro i j hi hj hij
  have e1 := hg i _ (List.getElem?_eq_getElem hi)
  have e2 := hg j _ (List.getElem?_eq_getElem hj)
  have n1 : NV M[i] := hS.2.2 _ (m1.mem_iff.mp (List.getElem_mem hi))
  have n2 : NV M[j] := hS.2.2 _ (m1.mem_iff.mp (List.getElem_mem hj))
  have k1 := key_lt n1
  have k2 := key_lt n2
  have := hs i j hij (by rw [← m2]; exact hj)
  rw [e1, e2, nI_toInt (by omega), nI_toInt (by omega)] at this
  have hne : key M[i] ≠ key M[j] := fun e => by
    have := (List.getElem_inj hnd).mp (key_inj n1 n2 e)
    omega
  omega
def F49 (s s' : St) : Prop := ∀ q, q ≠ 4 → q ≠ 9 → s' q = s q
section KIO
variable {S : SG} {sK : St}
theorem sp_keyInOrder (hC : CG sK S) (hS : SI S) (hO : KO sK S.1) {k : Nat} (hk : k < S.1.length) {K : Int32 → St → Prop} (h : ∀ (s : St) (M : List Nd), F49 sK s → s 9 0 = 1 → KO s S.1 → M.Perm S.1 → M.Pairwise (fun x y => key x < key y) → (∀ x, M[k]? = some x → K (nI (key x)) s)) : wp_X2_keyInOrder sK (nI k) K := by
  unfold wp_X2_keyInOrder
  have hl : S.1.length ≤ 1000 := hS.1
  have fin : ∀ s, s 7 0 = nI S.1.length → F49 sK s → s 9 0 = 1 → SRT (s 4) S.1 → J_X2_keyInOrder_54 s (nI k) K := by
    intro s h7 hF h9 hs
    unfold J_X2_keyInOrder_54
    obtain ⟨M, m1, m2, m3⟩ := id hs
    rw [h7, nI_clamp (n := k) (by omega)]
    refine ⟨fun c => absurd c (nI_pos (by omega)), fun _ => ⟨fun c => absurd (le3 (y := k) (b := S.1.length) (by omega) (by omega) c) (by omega), fun _ => ⟨vp_in_nI (by omega) (by decide), ?_⟩⟩⟩
    have hkM : k < M.length := by rw [m1.length_eq]; exact hk
    have ex := List.getElem?_eq_getElem hkM
    rw [m3 k _ ex]
    exact h s M hF h9 (Or.inr ⟨h9, hs⟩) m1 m2 _ ex
  constructor
  · intro c
    have hc7 : (sK 7 0).toNatClampNeg = S.1.length := by rw [hC.1]; exact nI_clamp (by omega)
    have hc0 : (0 : Int32).toNatClampNeg = 0 := by decide
    refine ⟨by rw [hC.1]; exact nI_pos (by omega), by rw [hc7, hc0]; omega, by rw [hc7, hc0]; omega, ?_⟩
    rintro _ rfl
    have hF0 : F4 sK (uc sK 4 (sK 0) (0 : Int32) (0 : Int32) (sK 7 0)) := fun q hq => uc_n hq
    have hP0 : PMU S.1.length (sK 0) ((uc sK 4 (sK 0) (0 : Int32) (0 : Int32) (sK 7 0)) 4) := by
      refine ⟨id, id, fun i h => ⟨h, rfl⟩, fun i h => ⟨h, rfl⟩, fun i hi => ?_⟩
      rw [uc_s, hc7, hc0]
      rw [pk_cpy_in (by omega) (by omega)]
      simp
    generalize uc sK 4 (sK 0) (0 : Int32) (0 : Int32) (sK 7 0) = s1 at hF0 hP0 ⊢
    refine lp_ind (fun q => ∃ j s, j ≤ 8 ∧ q = (nI j, s) ∧ F4 sK s ∧ PMU S.1.length (sK 0) (s 4) ∧ (j = 8 → SDD (s 4) S.1.length)) (fun q => 8 - q.1.toNatClampNeg) ?_ _ ⟨0, s1, by omega, rfl, hF0, hP0, fun e => absurd e (by omega)⟩
    rintro _ R ⟨j, s, hj, rfl, hF, hP, hsd⟩ hR
    unfold F_X2_keyInOrder_26
    dsimp only
    constructor
    · intro c1
      have := le3 (y := j) (b := 8) (by omega) (by omega) c1
      rintro _ rfl
      refine fin _ ?_ ?_ (by rw [us_s]) ?_
      · rw [us_n (by decide), hF 7 (by decide)]; exact hC.1
      · exact fun q hq z => by rw [us_n z]; exact hF q hq
      · rw [us_n (by decide)]
        exact SRT_of hS.fl hC.2.2.1 hP (hsd (by omega))
    · intro c1
      have hj8 := nle3 (y := j) (b := 8) (by omega) (by omega) c1
      obtain ⟨g, g1, g2, g3, g4⟩ := gap_ok j hj8
      rw [nI_clamp (n := j) (by omega), g1]
      refine ⟨vp_in_nI hj8 (by decide), sp_sortByGap g2 g3 hl (by rw [hF 7 (by decide)]; exact hC.1) hP (fun s2 f2 p2 d2 => ?_)⟩
      rintro _ rfl
      rw [nI_1]
      refine hR _ ⟨j + 1, s2, by omega, rfl, fun q hq => (f2 q hq).trans (hF q hq), p2, fun e => d2 (g4 (by omega))⟩ ?_
      dsimp only; rw [nI_clamp (by omega), nI_clamp (by omega)]; omega
  · intro c
    rcases hO with z | ⟨z1, z2⟩
    · exact absurd z c
    · exact fin sK hC.1 (fun _ _ _ => rfl) z1 z2
end KIO
