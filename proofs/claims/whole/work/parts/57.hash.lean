/-- as many pigeons as holes at most -/
theorem php : ∀ (n m : Nat) (g : Nat → Nat), (∀ p, p < m → g p < n) → (∀ p q, p < m → q < m → g p = g q → p = q) → m ≤ n := by
  intro n
  induction n with
  | zero =>
    intro m g h1 _
    rcases Nat.eq_zero_or_pos m with q | q
    · omega
    · exact absurd (h1 0 q) (by omega)
  | succ n ih =>
    intro m g h1 h2
    by_cases hp : ∃ p, p < m ∧ g p = n
    · obtain ⟨p0, hp0, e0⟩ := hp
      have := ih (m - 1) (fun p => if p < p0 then g p else g (p + 1)) (fun p hpm => by
        split
        · rename_i hlt
          have a := h1 p (by omega)
          have b : g p ≠ n := fun e => by have := h2 p p0 (by omega) hp0 (by rw [e, e0]); omega
          omega
        · rename_i hge
          have a := h1 (p + 1) (by omega)
          have b : g (p + 1) ≠ n := fun e => by have := h2 (p + 1) p0 (by omega) hp0 (by rw [e, e0]); omega
          omega) (fun p q hpm hqm e => by
        split at e <;> split at e
        · exact h2 p q (by omega) (by omega) e
        · have := h2 p (q + 1) (by omega) (by omega) e; omega
        · have := h2 (p + 1) q (by omega) (by omega) e; omega
        · have := h2 (p + 1) (q + 1) (by omega) (by omega) e; omega)
      omega
    · have := ih m g (fun p hpm => by
        have a := h1 p hpm
        have b : g p ≠ n := fun e => hp ⟨p, hpm, e⟩
        omega) h2
      omega
/-- where a key is looked for first -/
def hsh (k : Nat) : Nat := (nI k * (-1640531535)).toBitVec.toNat / 2 ^ 21
theorem hsh_lt (k : Nat) : hsh k < 2048 := by
  have := (nI k * (-1640531535)).toBitVec.isLt
  unfold hsh; omega
theorem of_toNat {z : Int32} {n : Nat} (h : z.toBitVec.toNat = n) : z = nI n := by
  apply Int32.toBitVec_inj.mp
  apply BitVec.eq_of_toNat_eq
  have hl := z.toBitVec.isLt
  show _ = (BitVec.ofNat 32 n).toNat
  rw [BitVec.toNat_ofNat, ← h, Nat.mod_eq_of_lt hl]
theorem hsh_eq (k : Nat) : ((nI k * (-1640531535 : Int32)).toUInt32 >>> ((21 : Int32).toUInt32 &&& Int32.toUInt32 31)).toInt32 = nI (hsh k) := of_toNat (pk_ushr _ _ 21 (by decide))
/-- the e-th place that is looked at -/
def plc (k e : Nat) : Nat := (hsh k + e) % 2048
theorem plc_lt (k e : Nat) : plc k e < 2048 := Nat.mod_lt _ (by decide)
theorem plc_eq {k e : Nat} (he : e < 2 ^ 30) : (nI (hsh k) + nI e) &&& (2047 : Int32) = nI (plc k e) := by
  have := hsh_lt k
  rw [nI_add, pk_andN (m := (2047 : Int32)) (by omega) 11 (by decide)]
  rfl
/-- every place comes -/
theorem plc_all (k p : Nat) (hp : p < 2048) : ∃ e, e < 2048 ∧ plc k e = p := by
  have := hsh_lt k
  refine ⟨(p + 2048 - hsh k) % 2048, Nat.mod_lt _ (by decide), ?_⟩
  unfold plc; omega
/-- the slots hold the keys of the list, each where it is found -/
def SLT (f : Nat → Int32) (L : List Nd) : Prop := ∃ pos : Nat → Nat, (∀ i, i < L.length → pos i < 2048) ∧ (∀ i j, i < L.length → j < L.length → pos i = pos j → i = j) ∧ (∀ i x, L[i]? = some x → f (pos i) = nI (key x + 1)) ∧ (∀ p, p < 2048 → (∀ i, i < L.length → pos i ≠ p) → f p = 0) ∧ ∀ i x, L[i]? = some x → ∃ d, d < 2048 ∧ pos i = plc (key x) d ∧ ∀ e, e < d → f (plc (key x) e) ≠ 0
theorem nI_succ_ne {k : Nat} (hk : k < 2 ^ 30) : nI (k + 1) ≠ 0 := nI_ne0 (by omega) (by omega)
section HASH
variable {sK : St} {L : List Nd}
theorem sp_slot_in (hT : SLT (sK 3) L) (hS : SI (L, false)) {x : Nd} (hx : NV x) (hm : x ∈ L) {K : Int32 → Prop} (h : K (-1)) : wp_X2_freeSlotFor sK (nI (key x)) K := by
  unfold wp_X2_freeSlotFor
  rw [hsh_eq]
  rintro _ rfl
  obtain ⟨pos, p1, p2, p3, p4, p5⟩ := hT
  obtain ⟨i0, hi0⟩ := List.getElem?_of_mem hm
  obtain ⟨d, hd, e1, e2⟩ := p5 i0 x hi0
  have hv := p3 i0 x hi0
  rw [e1] at hv
  refine lp_ind (fun q => ∃ e, e ≤ d ∧ q = nI e) (fun q => 2048 - q.toNatClampNeg) ?_ _ ⟨0, by omega, rfl⟩
  rintro _ R ⟨e, he, rfl⟩ hR
  unfold F_X2_freeSlotFor_10
  rw [show (2048 : Int32) = nI 2048 from rfl, nI_leI (by decide) (by omega), plc_eq (by omega)]
  refine ⟨fun c => absurd c (by omega), fun _ => ?_⟩
  rintro _ rfl
  have hpl := plc_lt (key x) e
  rw [nI_clamp (by omega), nI_1]
  have iv : vp_in (nI (plc (key x) e)) 2048 := vp_in_nI hpl (by decide)
  have hkl := key_lt hx
  have nz : ¬ sK 3 (plc (key x) e) = 0 := by
    by_cases q : e = d
    · subst q; rw [hv]; exact nI_succ_ne (by omega)
    · exact e2 e (by omega)
  refine ⟨iv, fun c => absurd c nz, fun _ => ⟨iv, fun _ => h, fun c => ?_⟩⟩
  have hne : e ≠ d := fun q => c (by rw [q]; exact hv)
  rintro _ rfl
  rw [nI_1]
  refine hR _ ⟨e + 1, by omega, rfl⟩ ?_
  rw [nI_clamp (by omega), nI_clamp (by omega)]; omega
theorem slot_free (hT : SLT (sK 3) L) (hl : L.length ≤ 1000) (k : Nat) : ∃ d, d < 2048 ∧ sK 3 (plc k d) = 0 ∧ ∀ e, e < d → sK 3 (plc k e) ≠ 0 := by
  obtain ⟨pos, p1, p2, p3, p4, p5⟩ := hT
  have hex : ∃ d, d < 2048 ∧ sK 3 (plc k d) = 0 := by
    apply Classical.byContradiction
    intro hno
    have hall : ∀ p, ∃ i, p < 2048 → i < L.length ∧ pos i = p := by
      intro p
      by_cases hp : p < 2048
      · apply Classical.byContradiction
        intro hn
        obtain ⟨e, he, ee⟩ := plc_all k p hp
        refine hno ⟨e, he, ?_⟩
        rw [ee]
        exact p4 p hp (fun i hi e2 => hn ⟨i, fun _ => ⟨hi, e2⟩⟩)
      · exact ⟨0, fun q => absurd q hp⟩
    obtain ⟨g, hg⟩ := Classical.axiomOfChoice hall
    have := php L.length 2048 g (fun p hp => (hg p hp).1) (fun p q hp hq e => by rw [← (hg p hp).2, ← (hg q hq).2, e])
    omega
  obtain ⟨d, ⟨h1, h2⟩, h3⟩ := pk_least (fun d => d < 2048 ∧ sK 3 (plc k d) = 0) hex
  exact ⟨d, h1, h2, fun e he q => h3 e he ⟨by omega, q⟩⟩
theorem sp_slot_out (hT : SLT (sK 3) L) (hS : SI (L, false)) {x : Nd} (hx : NV x) (hm : x ∉ L) {K : Int32 → Prop} (h : ∀ d, d < 2048 → sK 3 (plc (key x) d) = 0 → (∀ e, e < d → sK 3 (plc (key x) e) ≠ 0) → K (nI (plc (key x) d))) : wp_X2_freeSlotFor sK (nI (key x)) K := by
  unfold wp_X2_freeSlotFor
  rw [hsh_eq]
  rintro _ rfl
  have hl : L.length ≤ 1000 := hS.1
  obtain ⟨d, hd, f1, f2⟩ := slot_free hT hl (key x)
  obtain ⟨pos, p1, p2, p3, p4, p5⟩ := hT
  have hkl := key_lt hx
  refine lp_ind (fun q => ∃ e, e ≤ d ∧ q = nI e) (fun q => 2048 - q.toNatClampNeg) ?_ _ ⟨0, by omega, rfl⟩
  rintro _ R ⟨e, he, rfl⟩ hR
  unfold F_X2_freeSlotFor_10
  rw [show (2048 : Int32) = nI 2048 from rfl, nI_leI (by decide) (by omega), plc_eq (by omega)]
  refine ⟨fun c => absurd c (by omega), fun _ => ?_⟩
  rintro _ rfl
  have hpl := plc_lt (key x) e
  rw [nI_clamp (by omega), nI_1]
  have iv : vp_in (nI (plc (key x) e)) 2048 := vp_in_nI hpl (by decide)
  refine ⟨iv, fun c => ?_, fun c => ⟨iv, fun c2 => ?_, fun _ => ?_⟩⟩
  · have : e = d := by
      rcases Nat.lt_or_ge e d with q | q
      · exact absurd c (f2 e q)
      · omega
    subst this
    exact h e hd f1 f2
  · -- the key of another
    exfalso
    by_cases hi : ∃ i, i < L.length ∧ pos i = plc (key x) e
    · obtain ⟨i, hi1, hi2⟩ := hi
      obtain ⟨y, hy⟩ : ∃ y, L[i]? = some y := ⟨_, List.getElem?_eq_getElem hi1⟩
      have hyN : NV y := hS.2.2 y (List.mem_of_getElem? hy)
      have q := p3 i y hy
      rw [hi2, c2] at q
      have hyl := key_lt hyN
      have := nI_eq0 (by omega) (by omega) q
      have e9 := key_inj hx hyN (by omega)
      exact hm (e9 ▸ List.mem_of_getElem? hy)
    · exact c (p4 _ hpl (fun i hi1 hi2 => hi ⟨i, hi1, hi2⟩))
  · have hne : e ≠ d := fun q => c (by rw [q]; exact f1)
    rintro _ rfl
    rw [nI_1]
    refine hR _ ⟨e + 1, by omega, rfl⟩ ?_
    rw [nI_clamp (by omega), nI_clamp (by omega)]; omega
theorem SLT_add {f : Nat → Int32} (hT : SLT f L) (hS : SI (L, false)) {x : Nd} (hx : NV x) {d : Nat} (hd : d < 2048) (f1 : f (plc (key x) d) = 0) (f2 : ∀ e, e < d → f (plc (key x) e) ≠ 0) : SLT (upd f (plc (key x) d) (nI (key x + 1))) (L ++ [x]) := by
  obtain ⟨pos, p1, p2, p3, p4, p5⟩ := hT
  have hkl := key_lt hx
  have hpl := plc_lt (key x) d
  have hfree : ∀ i, i < L.length → pos i ≠ plc (key x) d := by
    intro i hi e
    obtain ⟨y, hy⟩ : ∃ y, L[i]? = some y := ⟨_, List.getElem?_eq_getElem hi⟩
    have hyN : NV y := hS.2.2 y (List.mem_of_getElem? hy)
    have q := p3 i y hy
    rw [e, f1] at q
    have := key_lt hyN
    exact nI_succ_ne (k := key y) (by omega) q.symm
  have old : ∀ i y, i < L.length → (L ++ [x])[i]? = some y → L[i]? = some y := fun i y hi h => by rwa [List.getElem?_append_left hi] at h
  have hlen : (L ++ [x]).length = L.length + 1 := by simp
  refine ⟨fun i => if i < L.length then pos i else plc (key x) d, fun i hi => ?_, fun i j hi hj e => ?_, fun i y hy => ?_, fun p hp hn => ?_, fun i y hy => ?_⟩
  · dsimp only; split
    · rename_i q; exact p1 i q
    · exact hpl
  · dsimp only at e
    rw [hlen] at hi hj
    split at e <;> split at e
    · rename_i a b; exact p2 i j a b e
    · rename_i a b; exact absurd e (hfree i a)
    · rename_i a b; exact absurd e.symm (hfree j b)
    · omega
  · have hi := (List.getElem?_eq_some_iff.mp hy).1
    rw [hlen] at hi
    dsimp only
    by_cases q : i < L.length
    · rw [if_pos q, pk_un (hfree i q)]; exact p3 i y (old i y q hy)
    · have : i = L.length := by omega
      subst this
      simp at hy
      subst hy
      rw [if_neg q, pk_us]
  · have hne : p ≠ plc (key x) d := fun e => by
      have := hn L.length (by omega)
      dsimp only at this
      rw [if_neg (by omega)] at this
      exact this e.symm
    rw [pk_un hne]
    refine p4 p hp (fun i hi e => ?_)
    have := hn i (by omega)
    dsimp only at this
    rw [if_pos hi] at this
    exact this e
  · have hi := (List.getElem?_eq_some_iff.mp hy).1
    rw [hlen] at hi
    dsimp only
    by_cases q : i < L.length
    · obtain ⟨d', a1, a2, a3⟩ := p5 i y (old i y q hy)
      refine ⟨d', a1, by rw [if_pos q]; exact a2, fun e he => ?_⟩
      by_cases z : plc (key y) e = plc (key x) d
      · rw [z, pk_us]; exact nI_succ_ne (by omega)
      · rw [pk_un z]; exact a3 e he
    · have : i = L.length := by omega
      subst this
      simp at hy
      subst hy
      refine ⟨d, hd, by rw [if_neg q], fun e he => ?_⟩
      by_cases z : plc (key x) e = plc (key x) d
      · rw [z, pk_us]; exact nI_succ_ne (by omega)
      · rw [pk_un z]; exact f2 e he
end HASH
