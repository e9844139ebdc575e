section GROW2
variable {B : BK} {sB : St} {out : Nat}
theorem gN_pre (k : Nat) : ∃ l, (gN B out (k + 1)).1 = (gN B out k).1 ++ l := by
  simp only [gN]
  cases e : (gN B out k).1[k]? with
  | none => exact ⟨[], by simp [sN]⟩
  | some x =>
    simp only [sN]
    split
    · exact ⟨[], by simp⟩
    · exact eN_pre _
theorem nI_neg {j : Nat} (hj : j < 2 ^ 31) : nI j ≠ -1 := by
  intro e
  have := nI_toInt hj
  rw [e] at this
  have z : (-1 : Int32).toInt = -1 := by decide
  omega
/-- where a search ends -/
def GE (B : BK) (out : Nat) (stop : Bool) (s : St) : Prop := ∃ k, k ≤ 1000 ∧ CS B out s (gN B out k) (8 * (k + 1)) ∧ ((gN B out k = BF B out ∧ BD s (gN B out k).1 k ∧ ((gN B out k).2 = true ∨ (gN B out k).1.length = k) ∧ (stop = true → s 10 0 = -1)) ∨ (stop = true ∧ ∃ x, (gN B out k).1[k]? = some x ∧ badb x = true ∧ s 10 0 = nI k))
theorem sp_grow107 (hO : OKb B) (hB : CB sB B) (ho : out < 256) {stop : Bool} {sK : St} (h0 : CS B out sK (iN B out (bN B)) 8) (h10 : sK 10 0 = -1) (h11 : sK 11 0 = 0) {K : St → Prop} (h : ∀ s, GE B out stop s → K s) : Lp (F_X2_grow_107 sB (nI out) (bi stop) K) ((0 : Int32), sK) := by
  have hN := hO.1
  refine lp_ind (fun q => ∃ k s, k ≤ (gN B out k).1.length ∧ q = (nI k, s) ∧ CS B out s (gN B out k) (8 * (k + 1)) ∧ BD s (gN B out k).1 k ∧ (stop = true → s 10 0 = -1)) (fun q => 1000 - q.1.toNatClampNeg) ?_ _ ⟨0, sK, by omega, rfl, h0, BD.zero h10 h11, fun _ => h10⟩
  rintro _ R ⟨k, s, hk, rfl, hC, hD, hs⟩ hR
  unfold F_X2_grow_107
  dsimp only
  have hS := gN_SI hO out k
  have hBG := gN_BG B out k
  have hl : (gN B out k).1.length ≤ 1000 := hS.1
  rw [hC.1.1, hC.1.2.1, bi_0]
  constructor
  · intro c1
    have c2 := le3 (y := k) (b := (gN B out k).1.length) (by omega) (by omega) c1
    have e := gN_BF (B := B) (out := out) (k := k) (by omega) (Or.inl c2)
    exact h s ⟨k, by omega, hC, Or.inl ⟨e, hD, Or.inr (by omega), hs⟩⟩
  · intro c1
    have hkl := nle3 (y := k) (b := (gN B out k).1.length) (by omega) (by omega) c1
    refine ⟨fun c2 => ?_, fun _ => ⟨fun hb => ?_, fun hb => ?_⟩⟩
    · have := le3 (y := k) (b := 1000) (by omega) (by omega) c2
      omega
    · obtain ⟨x, hx⟩ : ∃ x, (gN B out k).1[k]? = some x := ⟨_, List.getElem?_eq_getElem hkl⟩
      have hNV := hS.2.2 x (List.mem_of_getElem? hx)
      have e9 : gN B out (k + 1) = eN B out (gN B out k) x (bN B) := by
        simp only [gN]; rw [hx]; simp only [sN]; rw [if_neg (by rw [hb]; decide)]
      have h0k := hC.1.2.2.1 k x hx
      have go : ∀ s1, CS B out s1 (gN B out k) (8 * (k + 1)) → BD s1 (gN B out k).1 (k + 1) → (stop = true → s1 10 0 = -1) → J_X2_grow_155 s1 sB (nI out) (nI k) R := by
        intro s1 hC1 hD1 hs1
        unfold J_X2_grow_155
        refine sp_goOn hO hB ho hS hBG hx hC1 (fun s2 hC2 f10 f11 => ?_)
        rintro _ rfl
        rw [nI_1]
        obtain ⟨l, el⟩ := gN_pre (B := B) (out := out) k
        have hlen : k + 1 ≤ (gN B out (k + 1)).1.length := by rw [el]; simp; omega
        refine hR _ ⟨k + 1, s2, hlen, rfl, by rw [e9]; exact hC2, ?_, fun e => by rw [f10]; exact hs1 e⟩ ?_
        · rw [el]
          exact (hD1.frame f10 f11).ext (by omega) l
        · dsimp only; rw [nI_clamp (by omega), nI_clamp (by omega)]; omega
      rw [nI_clamp (n := k) (by omega), h0k]
      refine ⟨vp_in_nI (by omega) (by decide), sp_kbad hNV ?_⟩
      rw [bi_0]
      refine ⟨fun c3 => go s hC (hD.next hx c3) hs, fun c3 => ?_⟩
      refine sp_noteBad hD hx hl hNV h0k (bt_of c3) (fun s1 hD1 hF => ?_)
      have hC1 : CS B out s1 (gN B out k) (8 * (k + 1)) := by
        obtain ⟨g1, g2, g3, g4, g5⟩ := hC
        refine ⟨⟨by rw [hF 7 (by decide) (by decide)]; exact g1.1, by rw [hF 8 (by decide) (by decide)]; exact g1.2.1, by rw [hF 0 (by decide) (by decide)]; exact g1.2.2.1, by rw [hF 3 (by decide) (by decide)]; exact g1.2.2.2⟩, by rw [hF 1 (by decide) (by decide), hF 2 (by decide) (by decide)]; exact g2, fun d hd => by rw [hF 5 (by decide) (by decide), hF 6 (by decide) (by decide)]; exact g3 d hd, fun d => by rw [hF 6 (by decide) (by decide)]; exact g4 d, by rw [hF 9 (by decide) (by decide)]; exact g5⟩
      rw [bi_0]
      refine ⟨fun c4 => go s1 hC1 hD1 (fun e => by rw [c4] at e; cases e), fun c4 => h s1 ⟨k, by omega, hC1, Or.inr ⟨bt_of c4, x, hx, bt_of c3, ?_⟩⟩⟩
      have hm1 := hs (bt_of c4)
      have nob : ∀ i y, i < k → (gN B out k).1[i]? = some y → badb y = false := by
        rcases hD.1 with ⟨-, a2⟩ | ⟨j, y, a1, a2, a3, a4, a5⟩
        · exact a2
        · rw [hm1] at a4; exact absurd a4.symm (nI_neg (by omega))
      rcases hD1.1 with ⟨-, a2⟩ | ⟨j, y, a1, a2, a3, a4, a5⟩
      · exact absurd (a2 k x (by omega) hx) (by rw [bt_of c3]; decide)
      · by_cases z : j = k
        · rw [← z]; exact a4
        · have := nob j y (by omega) a2
          rw [a3] at this; cases this
    · exact h s ⟨k, by omega, hC, Or.inl ⟨gN_BF (by omega) (Or.inr (bt_of hb)), hD, Or.inl (bt_of hb), hs⟩⟩
theorem SLT_nil {f : Nat → Int32} (h : ∀ p, p < 2048 → f p = 0) : SLT f [] := ⟨fun _ => 0, fun i hi => by simp at hi, fun i j hi => by simp at hi, fun i x hi => by simp at hi, fun p hp _ => h p hp, fun i x hi => by simp at hi⟩
theorem sp_grow (hO : OKb B) (hB : CB sB B) (ho : out < 256) {stop : Bool} {sK : St} (hJ : JC sK) {K : St → Prop} (h : ∀ s, GE B out stop s → K s) : wp_X2_grow sK sB (nI out) (bi stop) K := by
  unfold wp_X2_grow
  rintro _ rfl _ rfl _ rfl _ rfl _ rfl _ rfl
  refine sp_grow36 hO hB ho ?_ ?_ ?_ ?_ ?_ (fun s hC e10 e11 => sp_grow107 hO hB ho hC e10 e11 h)
  · refine ⟨?_, ?_, fun i x hx => by simp at hx, SLT_nil (fun p hp => by rw [uf_s]; simp only; rw [if_pos hp])⟩
    · rw [uf_n (by decide), us_n (by decide), us_n (by decide), us_n (by decide), us_n (by decide), us_s]; rfl
    · rw [uf_n (by decide), us_n (by decide), us_n (by decide), us_n (by decide), us_s]; rfl
  · intro d hd
    rw [uf_n (by decide), us_n (by decide), us_n (by decide), us_n (by decide), us_n (by decide), us_n (by decide), uf_n (by decide), us_n (by decide), us_n (by decide), us_n (by decide), us_n (by decide), us_n (by decide)]
    exact hJ d hd
  · rw [uf_n (by decide), us_n (by decide), us_n (by decide), us_s]
  · rw [uf_n (by decide), us_n (by decide), us_s]
  · rw [uf_n (by decide), us_s]
/-- the closure is that of the calls -/
def CF (B : BK) (out : Nat) (s : St) : Prop := CG s (BF B out) ∧ ((BF B out).2 = false → TREE B out (BF B out) (s 1) (s 2) (8 * ((BF B out).1.length + 1)) ∧ BD s (BF B out).1 (BF B out).1.length)
theorem GE.cf {s : St} (h : GE B out false s) : CF B out s ∧ JC s ∧ s 9 0 = 0 := by
  obtain ⟨k, hk, hC, h⟩ := h
  rcases h with ⟨e, hD, hor, -⟩ | ⟨e, -⟩
  · refine ⟨⟨by rw [← e]; exact hC.1, fun hb => ?_⟩, hC.2.2.1, hC.2.2.2.2⟩
    rw [← e] at hb ⊢
    rcases hor with z | z
    · rw [hb] at z; cases z
    · rw [z]
      exact ⟨hC.2.1, hD⟩
  · cases e
end GROW2
