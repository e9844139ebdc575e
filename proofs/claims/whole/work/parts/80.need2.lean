section NEED2
variable {B : BK} {sX sT sB sD sR sK sM sJ sV : St} {sW : Int64} {sS : St} {sL : Int64} {t : Nat}
/-- what the model keeps but for its arcs -/
def KQ (sS s' : St) : Prop := ∀ q, q < 12 → q ≠ 6 → s' q = sS q
theorem KQ.PW {sS s' : St} (h : KQ sS s') (hp : PW sS) : PW s' := fun k hk => by rw [h 11 (by decide) (by decide)]; exact hp k hk
theorem STm.fr {s s' : St} {t : Nat} (h : STm s t) (e1 : s' 26 = s 26) (e2 : s' 27 = s 27) : STm s' t := by unfold STm at *; rw [e1, e2]; exact h
theorem sp_needed36 (hO : OKb B) (hM : MB sS B) (hp : PW sS) (hst : STm sS t) (ht : t < 1999999000) {p : Int32} {E : Int32 × Int32 × Int32 × St → Prop} (h : ∀ f a s' t', MB s' B → KQ sS s' → STm s' t' → t' ≤ t + 72 → (wlb B 72 = true → f = nI (nls B 72).length ∧ ATk p (nls B 72) a) → E (f, a, bi (wlb B 72), s')) : Lp (F_X10_needed_36 sL p E) ((0 : Int32), (-1 : Int32), (1 : Int32), (0 : Int32), sS) := by
  have hN := hO.1
  refine lp_ind (fun q => ∃ m f a s' t', m ≤ 9 * bN B ∧ q = (f, a, bi (wlb B m), nI m, s') ∧ (wlb B m = true → f = nI (nls B m).length ∧ ATk p (nls B m) a) ∧ MB s' B ∧ KQ sS s' ∧ STm s' t' ∧ t' ≤ t + m) (fun q => 72 - q.2.2.2.1.toNatClampNeg) ?_ _ ⟨0, 0, -1, sS, t, by omega, rfl, fun _ => ⟨rfl, Or.inr ⟨fun k hk => by simp [nls] at hk, rfl⟩⟩, hM, fun _ _ _ => rfl, hst, by omega⟩
  rintro _ R ⟨m, f, a, s', t', hm, rfl, hf, hM', hF, hs, hT⟩ hR
  unfold F_X10_needed_36
  dsimp only
  rw [hM'.1, show (9 : Int32) * nI (bN B) = nI (9 * bN B) by rw [← pk_mul]; rfl, nI_leI (by omega) (by omega), bi_0]
  refine ⟨fun c => ?_, fun c => ⟨fun c2 => ?_, fun c2 => ⟨vp_in_nI (by omega) (by decide), ?_⟩⟩⟩
  · have : m = 9 * bN B := by omega
    subst this
    obtain ⟨e1, e2⟩ := need_end hN (72 - 9 * bN B) (by omega)
    rw [show 9 * bN B + (72 - 9 * bN B) = 72 by omega] at e1 e2
    rw [← e1]
    exact h f a s' t' hM' hF hs (by omega) (fun z => by rw [e2]; exact hf (e1 ▸ z))
  · have e := wlb_stop c2 (72 - m)
    rw [show m + (72 - m) = 72 by omega] at e
    rw [c2, ← e]
    exact h f a s' t' hM' hF hs (by omega) (fun z => by rw [e] at z; cases z)
  · obtain ⟨hf1, hf2⟩ := hf (bt_of c2)
    have im : vp_in (nI m) 72 := vp_in_nI (by omega) (by decide)
    obtain ⟨f4, t4, gw, -⟩ := hO.2.2 (m / 9) (by omega)
    obtain ⟨mf, mt, ma⟩ := hM'.2.2 (m / 9) (by omega)
    have e6 := ma (m % 9) (by omega)
    rw [show 9 * (m / 9) + m % 9 = m by omega] at e6
    have hd := dg_lt (ba B (m / 9)) (m % 9)
    have e5 : nI (dg (ba B (m / 9)) (m % 9)) = (2 : Int32) ↔ dg (ba B (m / 9)) (m % 9) = 2 := nI_eq (b := 2) (by omega) (by decide)
    have hcm : (nI m).toNatClampNeg = m := nI_clamp (by omega)
    rw [hcm, e6, e5]
    have hlen := nls_len B m
    refine ⟨fun c3 => ⟨im, ?_⟩, fun c3 => ?_⟩
    · have hL : isL B m = true := isL_iff.mpr ⟨by omega, c3⟩
      have hO' := (kpB_ok hO hL).1
      have wl1 : wlb B (m + 1) = !(BF (kpB B m) 0).2 := by simp only [wlb]; rw [bt_of c2, hL]; simp
      have nl1 : GD (kpB B m) 0 = true → nls B (m + 1) = nls B m := fun e => by simp only [nls]; rw [hL, e]; simp
      have nl2 : GD (kpB B m) 0 = false → nls B (m + 1) = nls B m ++ [m] := fun e => by simp only [nls]; rw [hL, e]; simp
      rintro _ rfl
      have hM2 := put_M hN hL hM'
      have hF2 : KQ sS (ua s' 6 (nI m) 1) := fun q q1 q2 => by rw [ua_n q2]; exact hF q q1 q2
      have hs2 : STm (ua s' 6 (nI m) 1) t' := hs.fr (ua_n (by decide)) (ua_n (by decide))
      refine sp_layGraphs (B := kpB B m) (out := 0) hO' hM2 (hF2.PW hp) hs2 (by omega) (by decide) (fun s2 g1 g2 => ?_)
      have hM3 := unput_M hN hL (g2.MB hM2)
      have hF3 : KQ sS (ua s2 6 (nI m) 2) := fun q q1 q2 => by rw [ua_n q2, g2.kp q q1]; exact hF2 q q1 q2
      have hs3 : STm (ua s2 6 (nI m) 2) (t' + 1) := g1.st.fr (ua_n (by decide)) (ua_n (by decide))
      have nxt : ∀ f' a' : Int32, (wlb B (m + 1) = true → f' = nI (nls B (m + 1)).length ∧ ATk p (nls B (m + 1)) a') → R (f', a', bi (!(BF (kpB B m) 0).2), nI m + 1, ua s2 6 (nI m) 2) := by
        intro f' a' hfa
        rw [nI_1, ← wl1]
        refine hR _ ⟨m + 1, f', a', _, t' + 1, by omega, rfl, hfa, hM3, hF3, hs3, by omega⟩ ?_
        dsimp only; rw [nI_clamp (by omega), nI_clamp (by omega)]; omega
      refine ⟨fun c4 => ⟨im, ?_⟩, fun c4 => ?_⟩
      · rintro _ rfl _ rfl
        refine nxt f a (fun z => ?_)
        rw [wl1] at z
        rw [bi_0, z] at c4
        cases c4
      · refine sp_noneBadM (g2.PW (hF2.PW hp)) g1 (BF_SI hO' 0).fl (o := none) rfl ?_
        show (bi (GD (kpB B m) 0) = 0 → _) ∧ (¬ bi (GD (kpB B m) 0) = 0 → _)
        rw [bi_0]
        refine ⟨fun c5 => ?_, fun c5 => ⟨im, ?_⟩⟩
        · have jj : ∀ a' : Int32, ATk p (nls B m ++ [m]) a' → J_X10_needed_103 s2 f (bi (!(BF (kpB B m) 0).2)) (nI m) a' R := by
            intro a' ha
            unfold J_X10_needed_103
            rintro _ rfl
            refine ⟨im, ?_⟩
            rintro _ rfl _ rfl
            refine nxt _ a' (fun _ => ?_)
            rw [nl2 c5, hf1, nI_1, List.length_append, List.length_singleton]
            exact ⟨rfl, ha⟩
          rw [hf1] at jj ⊢
          refine ⟨fun c6 => jj _ ((hf2.put).1 c6.symm), fun c6 => jj _ ((hf2.put).2 (fun e => c6 e.symm))⟩
        · rintro _ rfl _ rfl
          refine nxt f a (fun _ => ?_)
          rw [nl1 (bt_of c5)]
          exact ⟨hf1, hf2⟩
    · rintro _ rfl
      have hL : isL B m = false := by
        cases z : isL B m with
        | false => rfl
        | true => exact absurd (isL_iff.mp z).2 c3
      have e1 : wlb B (m + 1) = wlb B m := by simp only [wlb]; rw [hL]; simp
      have e2 : nls B (m + 1) = nls B m := by simp only [nls]; rw [hL]; simp
      rw [nI_1]
      refine hR _ ⟨m + 1, f, a, s', t', by omega, by rw [e1], by rw [e1, e2]; exact hf, hM', hF, hs, by omega⟩ ?_
      dsimp only; rw [nI_clamp (by omega), nI_clamp (by omega)]; omega
theorem op_needed (hO : OKb B) (hB : CB sB B) (hM : MB sS B) (hp : PW sS) (hst : STm sS t) (ht : t < 1999990000) (hX : CX B sX sK) (hJ : JC sJ) (hC : NC B sM) {p : Int32} {K : Int32 → (St × St × St × St × St) → Int32 → St → Prop} (h : ∀ a sX' sB' sK' sM' sJ' sS' t', CX B sX' sK' → CB sB' B → JC sJ' → NC B sM' → sM' 3 = sM 3 → MB sS' B → KQ sS sS' → STm sS' t' → t' ≤ t + 257 → K a (sX', sB', sK', sM', sJ') a sS') : wp_X9_needed sX sT sB sD sR sK sM sJ sV sW p (fun a u => wp_X10_needed sS sL p (fun a' u' => K a u a' u')) := by
  unfold wp_X9_needed
  have hN := hO.1
  have hS := BF_SI hO 0
  refine ⟨fun c1 => ?_, fun c1 => ?_⟩
  · refine sp_isLarge hO hB hX (fun sX' sK' x1 x2 x3 x4 => ?_)
    rw [bi_0]
    dsimp only
    refine ⟨fun c => ?_, fun c => ?_⟩
    · obtain ⟨-, b, b1, b2, b3⟩ := (x3.2 c).2
      have hbb : b = 0 ↔ GD B 0 = true := bad_b hS.2.2 b1 b3
      rw [b2, nI_z (by omega), hbb]
      have mdl0 : GD B 0 = false → wp_X10_needed sS sL p (fun a' u' => K (-2) (sX', sB, sK', sM, sJ) a' u') := by
        intro hg
        unfold wp_X10_needed
        refine ⟨fun _ => ?_, fun z => absurd c1 z⟩
        refine sp_layGraphs (out := 0) hO hM hp hst (by omega) (by decide) (fun s' g1 g2 => ⟨fun c2 => ?_, fun c2 => ?_⟩)
        · rw [c] at c2; exact absurd c2 (by decide)
        · refine sp_noneBadM (g2.PW hp) g1 hS.fl (o := none) rfl ?_
          show (bi (GD B 0) = 0 → _) ∧ (¬ bi (GD B 0) = 0 → _)
          rw [hg]
          exact ⟨fun _ => h _ _ _ _ _ _ _ (t + 1) x1 hB hJ hC rfl (g2.MB hM) (fun q q1 _ => g2.kp q q1) g1.st (by omega), fun z => absurd rfl z⟩
      refine ⟨fun hg => ?_, fun hg => mdl0 (by cases z : GD B 0; rfl; exact absurd z hg)⟩
      refine sp_findsNeeded hO hB hJ hC (fun sM' sJ' sB' a1 a2 a3 a4 a5 => ?_)
      have hNC : NC B sM' := Or.inr ⟨a3, a4⟩
      have e3 : sM' 3 = sM 3 := a5 3 (by decide) (by decide) (by decide) (by decide)
      have hlen := nls_len B 72
      have mdl : ∀ v : Int32, (wlb B 72 = false → v = -2) → (wlb B 72 = true → (0 ≤ p → ATk p (nls B 72) v) ∧ (¬ 0 ≤ p → v = nI (nls B 72).length)) → wp_X10_needed sS sL p (fun a' u' => K v (sX', sB', sK', sM', sJ') a' u') := by
        intro v v1 v2
        unfold wp_X10_needed
        refine ⟨fun _ => ?_, fun z => absurd c1 z⟩
        refine sp_layGraphs (out := 0) hO hM hp hst (by omega) (by decide) (fun s' g1 g2 => ⟨fun c2 => ?_, fun c2 => ?_⟩)
        · rw [c] at c2; exact absurd c2 (by decide)
        · refine sp_noneBadM (g2.PW hp) g1 hS.fl (o := none) rfl ?_
          show (bi (GD B 0) = 0 → _) ∧ (¬ bi (GD B 0) = 0 → _)
          rw [hg]
          refine ⟨fun z => absurd z (by decide), fun _ => ?_⟩
          refine sp_needed36 hO (g2.MB hM) (g2.PW hp) g1.st (by omega) (fun f a s2 t' m1 m2 m3 m4 m5 => ?_)
          unfold J_X10_needed_121
          have hK : ∀ a, K a (sX', sB', sK', sM', sJ') a s2 := fun a => h a sX' sB' sK' sM' sJ' s2 t' x1 a1 a2 hNC e3 m1 (fun q q1 q2 => (m2 q q1 q2).trans (g2.kp q q1)) m3 (by omega)
          rw [bi_0]
          refine ⟨fun c3 => ?_, fun c3 => ⟨fun c4 => ?_, fun c4 => ?_⟩⟩
          · rw [v1 c3]; exact hK _
          · rw [((v2 (bt_of c3)).1 c4).uni (by omega) (m5 (bt_of c3)).2]; exact hK _
          · rw [(v2 (bt_of c3)).2 c4, (m5 (bt_of c3)).1]; exact hK _
      rw [bi_0]
      refine ⟨fun c3 => mdl _ (fun _ => rfl) (fun z => by rw [c3] at z; cases z), fun c3 => ?_⟩
      obtain ⟨r5, r4⟩ := a4.2 (bt_of c3)
      refine ⟨fun c4 => mdl _ (fun z => absurd z c3) (fun _ => ⟨fun z => ?_, fun _ => r5⟩), fun c4 => ?_⟩
      · rw [c4] at z; exact absurd z (by decide)
      · unfold wp_X4_neededAt
        dsimp only
        rw [r5]
        have hp0 : 0 ≤ p := by
          rw [ile] at c1 ⊢
          have z1 : (-1 : Int32).toInt = -1 := by decide
          have z0 : (0 : Int32).toInt = 0 := by decide
          have : p.toInt ≠ (-1 : Int32).toInt := fun e => c4 (Int32.toInt_inj.mp e)
          omega
        have hpn : ¬ p < 0 := by
          rw [ile] at hp0
          rw [ilt]
          omega
        obtain ⟨k, hk, rfl⟩ := nI_of hpn
        rw [nI_leI (by omega) (by omega)]
        refine ⟨fun z => absurd z hpn, fun _ => ⟨fun c5 => mdl _ (fun z => absurd z c3) (fun _ => ⟨fun _ => Or.inr ⟨fun k' hk' e => ?_, rfl⟩, fun z => absurd hp0 z⟩), fun c5 => ⟨vp_in_nI (by omega) (by decide), ?_⟩⟩⟩
        · have := nI_eq0 (by omega) (by omega) e
          omega
        · obtain ⟨v, hv⟩ : ∃ v, (nls B 72)[k]? = some v := ⟨_, List.getElem?_eq_getElem (by omega)⟩
          rw [nI_clamp (by omega), r4 k v hv]
          exact mdl _ (fun z => absurd z c3) (fun _ => ⟨fun _ => Or.inl ⟨k, v, rfl, hv, rfl⟩, fun z => absurd hp0 z⟩)
    · unfold wp_X10_needed
      refine ⟨fun _ => ?_, fun z => absurd c1 z⟩
      refine sp_layGraphs (out := 0) hO hM hp hst (by omega) (by decide) (fun s' g1 g2 => ⟨fun c2 => h _ _ _ _ _ _ _ (t + 1) x1 hB hJ hC rfl (g2.MB hM) (fun q q1 _ => g2.kp q q1) g1.st (by omega), fun c2 => ?_⟩)
      rw [bt_of c] at c2; exact absurd rfl c2
  · unfold wp_X10_needed
    exact ⟨fun z => absurd z c1, fun _ => h _ _ _ _ _ _ _ t hX hB hJ hC rfl hM (fun _ _ _ => rfl) hst (by omega)⟩
end NEED2
