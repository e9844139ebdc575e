/-! ===== arcs that are needed ===== -/
/-- an arc that is LESS; the calls with it KEPT -/
def isL (B : BK) (c : Nat) : Bool := decide (c / 9 < bN B) && decide (dg (ba B (c / 9)) (c % 9) = 2)
def kpB (B : BK) (c : Nat) : BK := putB B (c / 9) (c % 9) 1
def wlb (B : BK) : Nat → Bool
  | 0 => true
  | m + 1 => wlb B m && !(isL B m && (BF (kpB B m) 0).2)
def nls (B : BK) : Nat → List Nat
  | 0 => []
  | m + 1 => if (isL B m && !(GD (kpB B m) 0)) = true then nls B m ++ [m] else nls B m
theorem nls_len (B : BK) : ∀ m, (nls B m).length ≤ m := by
  intro m
  induction m with
  | zero => exact Nat.le_refl _
  | succ m ih =>
    simp only [nls]
    split
    · rw [List.length_append, List.length_singleton]; omega
    · omega
theorem wlb_stop {B : BK} {m : Nat} (h : wlb B m = false) : ∀ d, wlb B (m + d) = false := by
  intro d
  induction d with
  | zero => exact h
  | succ d ih => rw [← Nat.add_assoc]; simp only [wlb]; rw [ih]; rfl
theorem need_end {B : BK} (hN : bN B ≤ 8) : ∀ d, 9 * bN B + d ≤ 72 → wlb B (9 * bN B + d) = wlb B (9 * bN B) ∧ nls B (9 * bN B + d) = nls B (9 * bN B) := by
  intro d
  induction d with
  | zero => intro _; exact ⟨rfl, rfl⟩
  | succ d ih =>
    intro hd
    obtain ⟨h1, h2⟩ := ih (by omega)
    have e : isL B (9 * bN B + d) = false := by
      unfold isL
      rw [decide_eq_false (by omega)]; rfl
    rw [← Nat.add_assoc]
    simp only [wlb, nls]
    rw [e, h1, h2]
    simp
/-- what needed tells at k -/
def ATk (p : Int32) (l : List Nat) (a : Int32) : Prop := (∃ k v, p = nI k ∧ l[k]? = some v ∧ a = nI v) ∨ ((∀ k, k < l.length → p ≠ nI k) ∧ a = -1)
theorem ATk.uni {p a a' : Int32} {l : List Nat} (hl : l.length < 2 ^ 31) (h : ATk p l a) (h' : ATk p l a') : a = a' := by
  rcases h with ⟨k, v, h1, h2, h3⟩ | ⟨h1, h2⟩
  · have hk := (List.getElem?_eq_some_iff.mp h2).1
    rcases h' with ⟨k', v', g1, g2, g3⟩ | ⟨g1, g2⟩
    · have hk' := (List.getElem?_eq_some_iff.mp g2).1
      have := nI_eq0 (by omega) (by omega) (h1.symm.trans g1)
      subst this
      rw [h2] at g2
      cases g2
      rw [h3, g3]
    · exact absurd h1 (g1 k hk)
  · rcases h' with ⟨k', v', g1, g2, g3⟩ | ⟨g1, g2⟩
    · exact absurd g1 (h1 k' (List.getElem?_eq_some_iff.mp g2).1)
    · rw [h2, g2]
theorem ATk.put {p a : Int32} {l : List Nat} {c : Nat} (h : ATk p l a) : (p = nI l.length → ATk p (l ++ [c]) (nI c)) ∧ (p ≠ nI l.length → ATk p (l ++ [c]) a) := by
  refine ⟨fun e => Or.inl ⟨l.length, c, e, by simp, rfl⟩, fun e => ?_⟩
  rcases h with ⟨k, v, h1, h2, h3⟩ | ⟨h1, h2⟩
  · exact Or.inl ⟨k, v, h1, by rw [List.getElem?_append_left (List.getElem?_eq_some_iff.mp h2).1]; exact h2, h3⟩
  · refine Or.inr ⟨fun k hk => ?_, h2⟩
    rw [List.length_append, List.length_singleton] at hk
    by_cases z : k = l.length
    · subst z; exact e
    · exact h1 k (by omega)
/-- the rows of what is needed -/
def NDr (B : BK) (sM : St) (m : Nat) : Prop := sM 7 0 = bi (wlb B m) ∧ (wlb B m = true → sM 5 0 = nI (nls B m).length ∧ ∀ k v, (nls B m)[k]? = some v → sM 4 k = nI v)
def NC (B : BK) (sM : St) : Prop := sM 6 0 = 0 ∨ (sM 6 0 = 1 ∧ NDr B sM 72)
section NEED
variable {B : BK} {sX sT sB sD sR sK sM sJ sV : St} {sW : Int64} {sS : St} {sL : Int64} {t : Nat}
theorem isL_iff {c : Nat} : isL B c = true ↔ c / 9 < bN B ∧ dg (ba B (c / 9)) (c % 9) = 2 := by
  unfold isL
  rw [Bool.and_eq_true, decide_eq_true_eq, decide_eq_true_eq]
theorem kpB_ok (hO : OKb B) {c : Nat} (h : isL B c = true) : OKb (kpB B c) ∧ c % 9 / 3 < bp B (bf B (c / 9)) ∧ c % 3 < bp B (bt B (c / 9)) := by
  obtain ⟨h1, h2⟩ := isL_iff.mp h
  have e : c % 9 = 3 * (c % 9 / 3) + c % 3 := by omega
  obtain ⟨f4, t4, gw, hz⟩ := hO.2.2 (c / 9) h1
  have := hz (c % 9 / 3) (c % 3) (by omega) (by omega) (by rw [← e, h2]; decide)
  refine ⟨?_, this⟩
  unfold kpB
  rw [e]
  exact putB_ok hO this.1 this.2 (by decide) h1
theorem unput_M {c : Nat} (hN : bN B ≤ 8) (h : isL B c = true) (hM : MB sS (kpB B c)) : MB (ua sS 6 (nI c) 2) B := by
  obtain ⟨h1, h2⟩ := isL_iff.mp h
  refine ⟨by rw [ua_n (by decide)]; exact hM.1, fun a ha => by rw [ua_n (by decide)]; exact hM.2.1 a ha, fun d hd => ?_⟩
  obtain ⟨g1, g2, g3⟩ := hM.2.2 d hd
  rw [ua_n (by decide), ua_n (by decide)]
  refine ⟨g1, g2, fun k hk => ?_⟩
  have g4 : sS 6 (9 * d + k) = nI (dg (up (ba B) (c / 9) (sd (ba B (c / 9)) (c % 9) 1) d) k) := g3 k hk
  rw [ua_s, nI_clamp (by omega)]
  by_cases e : d = c / 9
  · subst e
    rw [up_s, sd_dg (by decide) k hk] at g4
    by_cases e2 : k = c % 9
    · subst e2
      rw [show 9 * (c / 9) + c % 9 = c by omega, pk_us, h2]; rfl
    · rw [pk_un (by omega), g4, if_neg e2]
  · rw [pk_un (by omega), g4, up_n e]
theorem put_M {c : Nat} (hN : bN B ≤ 8) (h : isL B c = true) (hM : MB sS B) : MB (ua sS 6 (nI c) 1) (kpB B c) := by
  obtain ⟨h1, h2⟩ := isL_iff.mp h
  have := putB_M hM hN h1 (i := c % 9) (v := 1) (by omega) (by decide)
  rw [show 9 * (c / 9) + c % 9 = c by omega] at this
  exact this
theorem unput_C {c : Nat} (hc : c < 2 ^ 31) {v : Int32} (hB : CB sB B) (hcN : c < bN B) : CB (ua (ua sB 3 (nI c) v) 3 (nI c) (nI (ba B c))) B := by
  refine ⟨by rw [ua_n (by decide), ua_n (by decide)]; exact hB.1, fun a ha => by rw [ua_n (by decide), ua_n (by decide)]; exact hB.2.1 a ha, fun d hd => ?_⟩
  obtain ⟨h1, h2, h3⟩ := hB.2.2 d hd
  rw [ua_n (by decide), ua_n (by decide), ua_n (by decide), ua_n (by decide), ua_s, ua_s, nI_clamp hc]
  refine ⟨h1, h2, ?_⟩
  by_cases e : d = c
  · subst e; rw [pk_us]
  · rw [pk_un e, pk_un e]; exact h3
theorem BD_gd {s : St} (hO : OKb B) (hf : (BF B 0).2 = false) (hc : CF B 0 s) : (s 10 0 < 0 ↔ GD B 0 = true) := by
  obtain ⟨-, hD⟩ := hc.2 hf
  have hl : (BF B 0).1.length ≤ 1000 := (BF_SI hO 0).1
  rw [GD_iff]
  rcases hD.1 with ⟨a1, a2⟩ | ⟨j, y, a1, a2, a3, a4, a5⟩
  · rw [a1]
    refine ⟨fun _ x hx => ?_, fun _ => by decide⟩
    obtain ⟨i, hi⟩ := List.getElem?_of_mem hx
    exact a2 i x (List.getElem?_eq_some_iff.mp hi).1 hi
  · rw [a4]
    refine ⟨fun z => absurd z (nI_pos (by omega)), fun z => ?_⟩
    have := z y (List.mem_of_getElem? a2)
    rw [a3] at this; cases this
theorem NDr.skip {i : Nat} (h : NDr B sM i) (hl : isL B i = false) : NDr B sM (i + 1) := by
  have e1 : wlb B (i + 1) = wlb B i := by simp only [wlb]; rw [hl]; simp
  have e2 : nls B (i + 1) = nls B i := by simp only [nls]; rw [hl]; simp
  unfold NDr
  rw [e1, e2]
  exact h
theorem NDr.fr {i : Nat} {s' : St} (h : NDr B sM i) (e4 : s' 4 = sM 4) (e5 : s' 5 = sM 5) (e7 : s' 7 = sM 7) : NDr B s' i := by
  unfold NDr at *
  rw [e4, e5, e7]
  exact h
theorem sp_tryKept (hO : OKb B) (hB : CB sB B) (hJ : JC sJ) {i : Nat} (hi : i < 72) (hR : NDr B sM i) (hw : wlb B i = true) {K : (St × St × St) → Prop} (h : ∀ sM' sJ' sB', CB sB' B → JC sJ' → NDr B sM' (i + 1) → (∀ q, q ≠ 4 → q ≠ 5 → q ≠ 7 → sM' q = sM q) → K (sM', sJ', sB')) : wp_X4_tryKept sM sJ sB (nI i) K := by
  unfold wp_X4_tryKept
  have hN := hO.1
  have e1 : nI i / (9 : Int32) = nI (i / 9) := pk_div (by omega) (by decide) (by decide)
  have e2 : nI i - nI i / (9 : Int32) * (9 : Int32) = nI (i % 9) := pk_rem (by omega) (by decide) (by decide)
  have e3 : nI (i % 9) / (3 : Int32) = nI (i % 9 / 3) := pk_div (by omega) (by decide) (by decide)
  have e4 : nI i - nI i / (3 : Int32) * (3 : Int32) = nI (i % 3) := pk_rem (by omega) (by decide) (by decide)
  rw [e2, e1, e3, e4]
  rintro _ rfl _ rfl _ rfl
  have skip : isL B i = false → K (sM, sJ, sB) := fun hl => h sM sJ sB hB hJ (hR.skip hl) (fun _ _ _ _ => rfl)
  refine sp_hasPair hO hB (fun hip => ⟨fun e => absurd e (by decide), fun _ => ?_⟩) (fun hip => ⟨fun _ => skip ?_, fun e => absurd rfl e⟩)
  · obtain ⟨c, x, y, hcN, hx, hy, q1, q2, q3⟩ := hip
    have := nI_eq0 (by omega) (by omega) q1
    subst this
    obtain ⟨f4, t4, gw, -⟩ := hO.2.2 (i / 9) hcN
    obtain ⟨ef, et, ea⟩ := hB.2.2 (i / 9) hcN
    have i8 : vp_in (nI (i / 9)) 8 := vp_in_nI (by omega) (by decide)
    have ei : 3 * (i % 9 / 3) + i % 3 = i % 9 := by omega
    have hd := dg_lt (ba B (i / 9)) (i % 9)
    rw [nI_clamp (n := i / 9) (by omega), ea]
    refine ⟨i8, sp_at gw.b31 (by omega) (by omega) ?_⟩
    have e5 : nI (dg (ba B (i / 9)) (i % 9)) = (2 : Int32) ↔ dg (ba B (i / 9)) (i % 9) = 2 := nI_eq (b := 2) (by omega) (by decide)
    rw [ei, e5]
    refine ⟨fun c2 => ⟨i8, ?_⟩, fun c2 => skip ?_⟩
    · rintro _ rfl
      refine sp_with (v := 1) gw.1 (by omega) (by omega) (by decide) ⟨i8, ?_⟩
      rintro _ rfl
      rw [ei]
      have hL : isL B i = true := isL_iff.mpr ⟨hcN, c2⟩
      have hO' := (kpB_ok hO hL).1
      have hB' : CB (ua sB 3 (nI (i / 9)) (nI (sd (ba B (i / 9)) (i % 9) 1))) (kpB B i) := putB_C hB (by omega)
      refine sp_grow (B := kpB B i) (out := 0) (stop := false) hO' hB' (by decide) hJ (fun s hs => ⟨i8, ?_⟩)
      obtain ⟨a1, a2, -⟩ := hs.cf
      rintro _ rfl
      have hB2 := unput_C (v := nI (sd (ba B (i / 9)) (i % 9) 1)) (c := i / 9) (by omega) hB hcN
      have hlen := nls_len B i
      obtain ⟨r7, r5⟩ := hR
      obtain ⟨r5, r4⟩ := r5 hw
      have wl1 : wlb B (i + 1) = !(BF (kpB B i) 0).2 := by simp only [wlb]; rw [hw, hL]; simp
      have nl1 : GD (kpB B i) 0 = true → nls B (i + 1) = nls B i := fun e => by simp only [nls]; rw [hL, e]; simp
      have nl2 : GD (kpB B i) 0 = false → nls B (i + 1) = nls B i ++ [i] := fun e => by simp only [nls]; rw [hL, e]; simp
      have e8 := a1.1.2.1
      have jj : ∀ b : Int32, b = bi (!(BF (kpB B i) 0).2) → J_X4_tryKept_106 sM s (ua (ua sB 3 (nI (i / 9)) (nI (sd (ba B (i / 9)) (i % 9) 1))) 3 (nI (i / 9)) (nI (ba B (i / 9)))) (nI i) b K := by
        intro b eb
        rw [eb]
        unfold J_X4_tryKept_106
        refine ⟨bi_zb _, ?_⟩
        intro z14 ez
        rw [ez]
        rw [us_n (j := 5) (by decide), r5, show (72 : Int32) = nI 72 from rfl, nI_leI (by decide) (by omega)]
        refine ⟨fun c3 => ?_, fun c3 => ⟨fun c4 => absurd c4 (by omega), fun _ => ⟨vp_in_nI (by omega) (by decide), ?_⟩⟩⟩
        · refine h _ s _ hB2 a2 ⟨by rw [us_s, wl1], fun hw1 => ?_⟩ (fun q q4 q5 q7 => us_n q7)
          rw [wl1] at hw1
          have hf : (BF (kpB B i) 0).2 = false := by cases z : (BF (kpB B i) 0).2; rfl; rw [z] at hw1; cases hw1
          rw [nl1 ((BD_gd hO' hf a1).mp c3), us_n (by decide), us_n (by decide)]
          exact ⟨r5, r4⟩
        · rintro _ rfl _ rfl
          refine h _ s _ hB2 a2 ⟨by rw [us_n (by decide), ua_n (by decide), us_s, wl1], fun hw1 => ?_⟩ (fun q q4 q5 q7 => by rw [us_n q5, ua_n q4, us_n q7])
          rw [wl1] at hw1
          have hf : (BF (kpB B i) 0).2 = false := by cases z : (BF (kpB B i) 0).2; rfl; rw [z] at hw1; cases hw1
          have hg : GD (kpB B i) 0 = false := by
            cases z : GD (kpB B i) 0 with
            | false => rfl
            | true => exact absurd ((BD_gd hO' hf a1).mpr z) c3
          rw [nl2 hg, us_s, us_n (by decide), ua_s, ua_n (by decide), us_n (by decide), us_n (by decide), r5, nI_clamp (by omega)]
          refine ⟨by rw [nI_1, List.length_append, List.length_singleton], fun k v hk => ?_⟩
          by_cases z : k = (nls B i).length
          · subst z
            simp at hk
            subst hk
            rw [pk_us]
          · have hkl := (List.getElem?_eq_some_iff.mp hk).1
            rw [List.length_append, List.length_singleton] at hkl
            rw [List.getElem?_append_left (by omega)] at hk
            rw [pk_un z]
            exact r4 k v hk
      rw [e8, bi_0]
      refine ⟨fun c3 => jj _ (by rw [c3]; rfl), fun c3 => jj _ (by rw [bt_of c3]; rfl)⟩
    · cases z : isL B i with
      | false => rfl
      | true => exact absurd (isL_iff.mp z).2 c2
  · cases z : isL B i with
    | false => rfl
    | true =>
      obtain ⟨-, p1, p2⟩ := kpB_ok hO z
      exact absurd ⟨i / 9, i % 9 / 3, i % 3, (isL_iff.mp z).1, p1, p2, rfl, rfl, rfl⟩ hip
theorem sp_findsNeeded (hO : OKb B) (hB : CB sB B) (hJ : JC sJ) (hC : NC B sM) {K : Int32 → (St × St × St) → Prop} (h : ∀ sM' sJ' sB', CB sB' B → JC sJ' → sM' 6 0 = 1 → NDr B sM' 72 → (∀ q, q ≠ 4 → q ≠ 5 → q ≠ 6 → q ≠ 7 → sM' q = sM q) → K (bi (wlb B 72)) (sM', sJ', sB')) : wp_X4_findsNeeded sM sJ sB K := by
  unfold wp_X4_findsNeeded
  rcases hC with e6 | ⟨e6, hD⟩
  · rw [e6]
    refine ⟨fun _ => ?_, fun z => absurd rfl z⟩
    rintro _ rfl _ rfl
    refine lp_ind (fun q => ∃ i sM' sJ' sB', i ≤ 72 ∧ q = (nI i, sM', sJ', sB') ∧ CB sB' B ∧ JC sJ' ∧ NDr B sM' i ∧ ∀ q, q ≠ 4 → q ≠ 5 → q ≠ 6 → q ≠ 7 → sM' q = sM q) (fun q => 72 - q.1.toNatClampNeg) ?_ _ ⟨0, _, sJ, sB, by omega, rfl, hB, hJ, ⟨by rw [us_s]; rfl, fun _ => ⟨by rw [us_n (by decide), us_s]; rfl, fun k v hk => by simp [nls] at hk⟩⟩, fun q q4 q5 q6 q7 => by rw [us_n q7, us_n q5]⟩
    rintro _ R ⟨i, sM1, sJ1, sB1, hi, rfl, a1, a2, a3, a4⟩ hR
    unfold F_X4_findsNeeded_19
    dsimp only
    rw [show (72 : Int32) = nI 72 from rfl, nI_leI (by decide) (by omega), a3.1, bi_0]
    have fin : NDr B sM1 72 → ∀ z6 : St, z6 = us sM1 6 1 → (zb (z6 7 0) ∧ K (z6 7 0) (z6, sJ1, sB1)) := by
      rintro hn _ rfl
      rw [us_n (by decide), hn.1]
      exact ⟨bi_zb _, h _ sJ1 sB1 a1 a2 (by rw [us_s]) (hn.fr (us_n (by decide)) (us_n (by decide)) (us_n (by decide))) (fun q q4 q5 q6 q7 => by rw [us_n q6]; exact a4 q q4 q5 q6 q7)⟩
    refine ⟨fun c => ?_, fun c => ⟨fun c2 => ?_, fun c2 => ?_⟩⟩
    · have : i = 72 := by omega
      subst this
      exact fin a3
    · refine fin ?_
      have e := wlb_stop c2 (72 - i)
      rw [show i + (72 - i) = 72 by omega] at e
      refine ⟨by rw [a3.1, c2, e], fun z => ?_⟩
      rw [e] at z; cases z
    · refine sp_tryKept hO a1 a2 (by omega) a3 (bt_of c2) (fun sM2 sJ2 sB2 b1 b2 b3 b4 => ?_)
      rintro _ rfl
      rw [nI_1]
      refine hR _ ⟨i + 1, sM2, sJ2, sB2, by omega, rfl, b1, b2, b3, fun q q4 q5 q6 q7 => (b4 q q4 q5 q7).trans (a4 q q4 q5 q6 q7)⟩ ?_
      dsimp only; rw [nI_clamp (by omega), nI_clamp (by omega)]; omega
  · rw [e6, hD.1]
    refine ⟨fun z => absurd z (by decide), fun _ => ⟨bi_zb _, h sM sJ sB hB hJ e6 hD (fun _ _ _ _ _ => rfl)⟩⟩
end NEED
