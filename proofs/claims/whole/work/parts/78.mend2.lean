section MEND2
variable {B : BK} {sX sT sB sD sR sK sM sJ sV : St} {sW : Int64} {sS : St} {sL : Int64} {t : Nat}
/-- the best of the first m sets -/
def BST (B : BK) (m : Nat) (b : Int32) : Prop := (b = -9 ∧ ∀ S, S < m → GD B S = false) ∨ ∃ S, S < m ∧ b = nI S ∧ GD B S = true ∧ ∀ S', S' < m → GD B S' = true → pcn S < pcn S' ∨ (pcn S = pcn S' ∧ S ≤ S')
theorem sp_mended28 (hO : OKb B) (hM : MB sS B) (hp : PW sS) (hst : STm sS t) (ht : t < 1999999000) {E : Int32 × St → Prop} (h : ∀ S s' t', LSt B S → FR sS s' → STm s' t' → t' ≤ t + 256 → E (nI S, s')) : Lp (F_X10_mended_28 sL E) ((-9 : Int32), (0 : Int32), sS) := by
  have hN := hO.1
  obtain ⟨hpw, hp0⟩ := p256 hN
  refine lp_ind (fun q => ∃ m b s' t', m ≤ 2 ^ bN B ∧ q = (b, nI m, s') ∧ BST B m b ∧ FR sS s' ∧ STm s' t' ∧ t' ≤ t + m) (fun q => 256 - q.2.1.toNatClampNeg) ?_ _ ⟨0, -9, sS, t, by omega, rfl, Or.inl ⟨rfl, fun S hS => absurd hS (by omega)⟩, FR.rf, hst, by omega⟩
  rintro _ R ⟨m, b, s', t', hm, rfl, hb, hF, hs, hT⟩ hR
  unfold F_X10_mended_28
  dsimp only
  have hM' := hF.MB hM
  have hp' := hF.PW hp
  rw [hM'.1, shl1 hN]
  have run : (b = -9 ∨ ∃ S, b = nI S ∧ S < m ∧ pcn m < pcn S) → m < 2 ^ bN B → J_X10_mended_55 s' sL b (nI m) R := by
    intro hor hmN
    unfold J_X10_mended_55
    refine sp_layGraphs (out := m) hO hM' hp' hs (by omega) (by omega) (fun s2 g1 g2 => ?_)
    refine sp_noneBadM (g2.PW hp') g1 (BF_SI hO m).fl (o := none) rfl ?_
    show (bi (GD B m) = 0 → _) ∧ (¬ bi (GD B m) = 0 → _)
    rw [bi_0]
    refine ⟨fun c => ?_, fun c => ?_⟩
    · rintro _ rfl
      rw [nI_1]
      refine hR _ ⟨m + 1, b, s2, t' + 1, by omega, rfl, ?_, hF.tr g2, g1.st, by omega⟩ ?_
      · rcases hb with ⟨q1, q2⟩ | ⟨S, q1, q2, q3, q4⟩
        · refine Or.inl ⟨q1, fun S hS => ?_⟩
          by_cases e : S = m
          · subst e; exact c
          · exact q2 S (by omega)
        · refine Or.inr ⟨S, by omega, q2, q3, fun S' h1 h2 => ?_⟩
          by_cases e : S' = m
          · subst e; rw [h2] at c; cases c
          · exact q4 S' (by omega) h2
      · dsimp only; rw [nI_clamp (by omega), nI_clamp (by omega)]; omega
    · rintro _ rfl
      rw [nI_1]
      refine hR _ ⟨m + 1, nI m, s2, t' + 1, by omega, rfl, ?_, hF.tr g2, g1.st, by omega⟩ ?_
      · refine Or.inr ⟨m, by omega, rfl, bt_of c, fun S' h1 h2 => ?_⟩
        by_cases e : S' = m
        · subst e; exact Or.inr ⟨rfl, Nat.le_refl _⟩
        · rcases hb with ⟨q1, q2⟩ | ⟨S, q1, q2, q3, q4⟩
          · have := q2 S' (by omega)
            rw [h2] at this; cases this
          · rcases hor with z | ⟨S2, z1, z2, z3⟩
            · rw [q2] at z; exact absurd z.symm (n9_ne (by omega))
            · rw [q2] at z1
              have := nI_eq0 (by omega) (by omega) z1
              subst this
              have := q4 S' (by omega) h2
              omega
      · dsimp only; rw [nI_clamp (by omega), nI_clamp (by omega)]; omega
  constructor
  · intro c
    have := le3 (y := m) (b := 2 ^ bN B) (by omega) (by omega) c
    have : m = 2 ^ bN B := by omega
    subst this
    rcases hb with ⟨q1, q2⟩ | ⟨S, q1, q2, q3, q4⟩
    · have := q2 (2 ^ bN B - 1) (by omega)
      rw [GD_full hO] at this; cases this
    · rw [q2]
      exact h S s' t' ⟨q1, q3, q4⟩ hF hs (by omega)
  · intro c
    have hmN := nle3 (y := m) (b := 2 ^ bN B) (by omega) (by omega) c
    refine ⟨fun c2 => run (Or.inl c2) hmN, fun c2 => ?_⟩
    rcases id hb with ⟨q1, q2⟩ | ⟨S, q1, q2, q3, q4⟩
    · exact absurd q1 c2
    · have l1 := pcn_le m
      have l2 := pcn_le S
      refine sp_bits (by omega) ?_
      rw [q2]
      refine sp_bits (by omega) ?_
      rw [nI_leI (by omega) (by omega)]
      refine ⟨fun c3 => ?_, fun c3 => ?_⟩
      · rintro _ rfl
        rw [nI_1]
        refine hR _ ⟨m + 1, nI S, s', t', by omega, rfl, Or.inr ⟨S, by omega, rfl, q3, fun S' h1 h2 => ?_⟩, hF, hs, by omega⟩ ?_
        · by_cases e : S' = m
          · subst e; omega
          · exact q4 S' (by omega) h2
        · dsimp only; rw [nI_clamp (by omega), nI_clamp (by omega)]; omega
      · have := run (Or.inr ⟨S, q2, q1, by omega⟩) hmN
        rw [q2] at this
        exact this
theorem op_mended (hO : OKb B) (hB : CB sB B) (hM : MB sS B) (hp : PW sS) (hst : STm sS t) (ht : t < 1999990000) (hX : CX B sX sK) (hJ : JC sJ) (h3 : sM 3 0 = -1 ∨ ∃ S, LSt B S ∧ sM 3 0 = nI S) {p : Int32} {K : Int32 → (St × St × St × St) → Int32 → St → Prop} (h0 : ∀ a, K a (sX, sK, sM, sJ) a sS) (h : ∀ a sX' sK' sM' sJ' sS' t', CX B sX' sK' → JC sJ' → (sM' 3 0 = -1 ∨ ∃ S, LSt B S ∧ sM' 3 0 = nI S) → (∀ q, q ≠ 1 → q ≠ 2 → q ≠ 3 → sM' q = sM q) → KP sS sS' → STm sS' t' → t' ≤ t + 257 → K a (sX', sK', sM', sJ') a sS') : wp_X9_mended sX sT sB sD sR sK sM sJ sV sW p (fun a u => wp_X10_mended sS sL p (fun a' u' => K a u a' u')) := by
  unfold wp_X9_mended wp_X10_mended
  have hN := hO.1
  obtain ⟨hpw, hp0⟩ := p256 hN
  have hm : ∀ (X : Int32 → Prop), (IX p 2 → X 1) → (¬ IX p 2 → X 0) → wp_X10_in p.toInt64 (0 : Int64) (1 : Int64) X := fun X a b => sp_inI (n := 2) (by decide) (by decide) a b
  refine cls_ix2 (m := 1) (by decide) (fun hv => ?_) (fun hv => hm _ (fun z => absurd z hv) (fun _ => ⟨fun _ => h0 _, fun e => absurd rfl e⟩))
  refine sp_isLarge hO hB hX (fun sX' sK' x1 x2 x3 x4 => ?_)
  rw [bi_0]
  refine ⟨fun c => ?_, fun c => ?_⟩
  · refine sp_leastSet hO hB c hJ h3 (fun S sM' sJ' l1 l2 l3 l4 => ?_)
    have hS := l1.1
    have mdl : ∀ v : Int32, (p = 0 → v = nI (pcn S)) → (¬ p = 0 → v = nI S) → wp_X10_in p.toInt64 (0 : Int64) (1 : Int64) (fun r1 => ((r1 = 0 → (K v (sX', sK', sM', sJ') (-1 : Int32) sS)) ∧ (¬ r1 = 0 → (wp_X10_layGraphs sS sL (0 : Int32) (fun r3 u3 => ((r3 = 0 → (K v (sX', sK', sM', sJ') (-2 : Int32) u3)) ∧ (¬ r3 = 0 → (Lp (F_X10_mended_28 sL (fun q17 => ((p = 0 → (wp_X10_bits q17.1 (fun r19 => K v (sX', sK', sM', sJ') r19 q17.2))) ∧ (¬ p = 0 → (K v (sX', sK', sM', sJ') q17.1 q17.2))))) ((-9 : Int32), (0 : Int32), u3))))))))) := by
      intro v v1 v2
      refine hm _ (fun _ => ⟨fun e => absurd e (by decide), fun _ => ?_⟩) (fun z => absurd hv z)
      refine sp_layGraphs (out := 0) hO hM hp hst (by omega) (by decide) (fun s' g1 g2 => ⟨fun c2 => ?_, fun c2 => ?_⟩)
      · rw [c] at c2; exact absurd c2 (by decide)
      · refine sp_mended28 hO (g2.MB hM) (g2.PW hp) g1.st (by omega) (fun S' s2 t' m1 m2 m3 m4 => ?_)
        have := l1.uni m1
        subst this
        have hK : ∀ a, K a (sX', sK', sM', sJ') a s2 := fun a => h a sX' sK' sM' sJ' s2 t' x1 l3 (Or.inr ⟨S, l1, l2⟩) l4 (g2.kp.tr m2.kp) m3 (by omega)
        refine ⟨fun e => sp_bits (by omega) ?_, fun e => ?_⟩
        · rw [v1 e]; exact hK _
        · rw [v2 e]; exact hK _
    refine ⟨fun e => sp_bitCount (by omega) (mdl _ (fun _ => rfl) (fun z => absurd e z)), fun e => mdl _ (fun z => absurd z e) (fun _ => rfl)⟩
  · refine hm _ (fun _ => ⟨fun e => absurd e (by decide), fun _ => ?_⟩) (fun z => absurd hv z)
    refine sp_layGraphs (out := 0) hO hM hp hst (by omega) (by decide) (fun s' g1 g2 => ⟨fun c2 => ?_, fun c2 => ?_⟩)
    · exact h _ _ _ _ _ _ (t + 1) x1 hJ h3 (fun _ _ _ _ => rfl) g2.kp g1.st (by omega)
    · rw [bt_of c] at c2; exact absurd rfl c2
end MEND2
