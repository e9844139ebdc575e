def oo (A B A' B' : Nat) : Prop := (A < B ↔ A' < B') ∧ (A = B ↔ A' = B')
theorem oo_step {a b A B A' B' : Nat} (ha : a ≤ 2) (hb : b ≤ 2) (h : oo A B A' B') : oo (a + 4 * A) (b + 4 * B) (a + 3 * A') (b + 3 * B') := by
  obtain ⟨h1, h2⟩ := h
  rcases Nat.lt_trichotomy A B with q | q | q
  · have := h1.mp q
    exact ⟨⟨fun _ => by omega, fun _ => by omega⟩, ⟨fun _ => by omega, fun _ => by omega⟩⟩
  · have := h2.mp q
    exact ⟨⟨fun _ => by omega, fun _ => by omega⟩, ⟨fun _ => by omega, fun _ => by omega⟩⟩
  · have z1 : ¬ A' < B' := fun z => by have := h1.mpr z; omega
    have z2 : ¬ A' = B' := fun z => by have := h2.mpr z; omega
    exact ⟨⟨fun _ => by omega, fun _ => by omega⟩, ⟨fun _ => by omega, fun _ => by omega⟩⟩
theorem gn_oo {u v : Nat} (hu : GW u) (hv : GW v) : oo u v (gn u) (gn v) := by
  have e1 := h4_dg hu.1
  have e2 := h4_dg hv.1
  have : oo (h4 (dg u)) (h4 (dg v)) (h3 (dg u)) (h3 (dg v)) := by
    unfold h4 h3
    refine oo_step (hu.2 0 (by decide)) (hv.2 0 (by decide)) (oo_step (hu.2 1 (by decide)) (hv.2 1 (by decide)) (oo_step (hu.2 2 (by decide)) (hv.2 2 (by decide)) (oo_step (hu.2 3 (by decide)) (hv.2 3 (by decide)) (oo_step (hu.2 4 (by decide)) (hv.2 4 (by decide)) (oo_step (hu.2 5 (by decide)) (hv.2 5 (by decide)) (oo_step (hu.2 6 (by decide)) (hv.2 6 (by decide)) (oo_step (hu.2 7 (by decide)) (hv.2 7 (by decide)) ⟨Iff.rfl, Iff.rfl⟩)))))))
  rw [e1, e2] at this
  exact this
theorem lex_oo {q q' u u' g g' : Nat} (hu : u < 262144) (hu' : u' < 262144) (hg : g < 19683) (hg' : g' < 19683) (h : u < u' ↔ g < g') : q * 262144 + u < q' * 262144 + u' ↔ q * 19683 + g < q' * 19683 + g' := by
  have one : ∀ {k a b v v' : Nat}, a < b → v < k → a * k + v < b * k + v' := fun {k a b v v'} hab hv => by
    have e1 : (a + 1) * k ≤ b * k := Nat.mul_le_mul_right _ hab
    rw [Nat.add_mul, Nat.one_mul] at e1
    exact Nat.lt_of_lt_of_le (Nat.add_lt_add_left hv _) (Nat.le_trans e1 (Nat.le_add_right _ _))
  rcases Nat.lt_trichotomy q q' with z | z | z
  · exact ⟨fun _ => one z hg, fun _ => one z hu⟩
  · subst z
    rw [Nat.add_lt_add_iff_left, Nat.add_lt_add_iff_left]
    exact h
  · exact ⟨fun w => absurd w (Nat.not_lt.mpr (Nat.le_of_lt (one z hu'))), fun w => absurd w (Nat.not_lt.mpr (Nat.le_of_lt (one z hg')))⟩
/-- both orders of graphs are one -/
theorem key_cd {x y : Nd} (hx : NV x) (hy : NV y) : key x < key y ↔ cd x < cd y := by
  have l1 := gn_lt hx.2.2
  have l2 := gn_lt hy.2.2
  have o1 := (gn_oo hx.2.2 hy.2.2).1
  have e : ∀ z : Nd, key z = (4 * z.1 + z.2.1) * 262144 + z.2.2 := fun z => by
    obtain ⟨a, b, w⟩ := z
    show a * 1048576 + b * 262144 + w = (4 * a + b) * 262144 + w
    rw [Nat.add_mul, Nat.mul_comm 4 a, Nat.mul_assoc]
  rw [e, e]
  exact lex_oo hx.2.2.1 hy.2.2.1 l1 l2 o1
/-- how many stand ahead -/
def ahd (L : List Nd) (x : Nd) : Nat := L.countP (fun y => decide (cd y < cd x))
theorem ahd_at {M : List Nd} (hM : M.Pairwise (fun x y => cd x < cd y)) {k : Nat} {x : Nd} (hk : M[k]? = some x) : ahd M x = k := by
  have hkl := (List.getElem?_eq_some_iff.mp hk).1
  have ex := (List.getElem?_eq_some_iff.mp hk).2
  rw [List.pairwise_iff_getElem] at hM
  unfold ahd
  rw [← List.take_append_drop k M, List.countP_append]
  have a : (M.take k).countP (fun y => decide (cd y < cd x)) = (M.take k).length := by
    rw [List.countP_eq_length]
    intro y hy
    obtain ⟨i, hi⟩ := List.getElem?_of_mem hy
    have hil := (List.getElem?_eq_some_iff.mp hi).1
    have eil := (List.getElem?_eq_some_iff.mp hi).2
    rw [List.length_take] at hil
    rw [List.getElem_take] at eil
    have := hM i k (by omega) hkl (by omega)
    rw [eil, ex] at this
    exact decide_eq_true this
  have b : (M.drop k).countP (fun y => decide (cd y < cd x)) = 0 := by
    rw [List.countP_eq_zero]
    intro y hy
    obtain ⟨i, hi⟩ := List.getElem?_of_mem hy
    have hil := (List.getElem?_eq_some_iff.mp hi).1
    have eil := (List.getElem?_eq_some_iff.mp hi).2
    rw [List.length_drop] at hil
    rw [List.getElem_drop] at eil
    intro z
    have z := of_decide_eq_true z
    by_cases q : i = 0
    · subst q
      have e3 : M[k + 0] = x := ex
      rw [e3] at eil
      rw [eil] at z; omega
    · have := hM k (k + i) hkl (by omega) (by omega)
      rw [eil, ex] at this
      omega
  rw [a, b, List.length_take]
  omega
theorem ahd_perm {L M : List Nd} (h : M.Perm L) (x : Nd) : ahd M x = ahd L x := h.countP_eq _
section GRAPHM
variable {sS : St} {sL : Int64} {L : List Nd} {t : Nat}
theorem sp_orderOf (hG : MG sS L t) (hl : L.length ≤ 1000) {k : Nat} {x : Nd} (hk : L[k]? = some x) {K : Int32 → Prop} (h : K (nI (cd x))) : wp_X10_orderOf sS sL (nI k) K := by
  unfold wp_X10_orderOf wp_X10_codeOf
  have hkl := (List.getElem?_eq_some_iff.mp hk).1
  obtain ⟨e1, e2, e3⟩ := hG.2.1 k x hk
  have ik : vp_in (nI k) 1000 := vp_in_nI (by omega) (by decide)
  rw [nI_clamp (n := k) (by omega), e1, e2, e3]
  refine ⟨ik, ik, ik, ?_⟩
  have e : (((4 : Int32) * nI x.1) + nI x.2.1) * (19683 : Int32) + nI (gn x.2.2) = nI (cd x) := by
    rw [show (4 : Int32) * nI x.1 = nI (4 * x.1) by rw [← pk_mul]; rfl, nI_add, show nI (4 * x.1 + x.2.1) * (19683 : Int32) = nI ((4 * x.1 + x.2.1) * 19683) by rw [← pk_mul]; rfl, nI_add]
    rfl
  rw [e]
  exact h
theorem sp_graph45 (hG : MG sS L t) (hS : SI (L, false)) {g : Nat} {x : Nd} (hg : L[g]? = some x) {E : Int32 → Prop} (h : E (nI (ahd L x))) : Lp (F_X10_graph_45 sS sL (nI g) E) ((0 : Int32), (0 : Int32)) := by
  have hl : L.length ≤ 1000 := hS.1
  have hxN : NV x := hS.2.2 x (List.mem_of_getElem? hg)
  have hxc := cd_lt hxN
  refine lp_ind (fun q => ∃ m, m ≤ L.length ∧ q = (nI (ahd (L.take m) x), nI m)) (fun q => 1000 - q.2.toNatClampNeg) ?_ _ ⟨0, by omega, rfl⟩
  rintro _ R ⟨m, hm, rfl⟩ hR
  unfold F_X10_graph_45
  dsimp only
  rw [hG.1]
  constructor
  · intro c
    have := le3 (y := m) (b := L.length) (by omega) (by omega) c
    rw [List.take_of_length_le this]
    exact h
  · intro c
    have hml := nle3 (y := m) (b := L.length) (by omega) (by omega) c
    obtain ⟨y, hy⟩ : ∃ y, L[m]? = some y := ⟨_, List.getElem?_eq_getElem hml⟩
    have hyN : NV y := hS.2.2 y (List.mem_of_getElem? hy)
    have hyc := cd_lt hyN
    have et : L.take (m + 1) = L.take m ++ [y] := by rw [List.take_add_one, hy]; rfl
    have next : ∀ a : Int32, a = nI (ahd (L.take (m + 1)) x) → R (a, nI m + 1) := by
      intro a ea
      rw [nI_1]
      refine hR _ ⟨m + 1, by omega, by rw [ea]⟩ ?_
      dsimp only; rw [nI_clamp (by omega), nI_clamp (by omega)]; omega
    refine sp_orderOf hG hl hy (sp_orderOf hG hl hg ?_)
    rw [nI_leI (by omega) (by omega)]
    refine ⟨fun c2 => ?_, fun c2 => ?_⟩
    · rintro _ rfl _ rfl
      refine next _ ?_
      rw [et]; unfold ahd
      rw [List.countP_append, List.countP_singleton, if_neg (by simp; omega)]
      rw [show (0 : Int32) = nI 0 from rfl, nI_add]
    · rintro _ rfl _ rfl
      refine next _ ?_
      rw [et]; unfold ahd
      rw [List.countP_append, List.countP_singleton, if_pos (by simp; omega), nI_1]
end GRAPHM
theorem CF.f49 {B : BK} {out : Nat} {s s' : St} (h : CF B out s) (hF : F49 s s') : CF B out s' := by
  obtain ⟨⟨c1, c2, c3, c4⟩, h2⟩ := h
  refine ⟨⟨by rw [hF 7 (by decide) (by decide)]; exact c1, by rw [hF 8 (by decide) (by decide)]; exact c2, by rw [hF 0 (by decide) (by decide)]; exact c3, by rw [hF 3 (by decide) (by decide)]; exact c4⟩, fun e => ?_⟩
  obtain ⟨t1, t2⟩ := h2 e
  exact ⟨by rw [hF 1 (by decide) (by decide), hF 2 (by decide) (by decide)]; exact t1, t2.frame (hF 10 (by decide) (by decide)) (hF 11 (by decide) (by decide))⟩
section GRAPHO
variable {B : BK} {sX sT sB sD sR sK sM sJ sV : St} {sW : Int64} {sS : St} {sL : Int64} {t : Nat}
theorem op_graph (hO : OKb B) (hB : CB sB B) (hM : MB sS B) (hp : PW sS) (hst : STm sS t) (ht : t < 2000000000) (hX : CX B sX sK) {p q : Int32} {K : Int32 → (St × St) → Int32 → St → Prop} (h0 : ∀ a, K a (sX, sK) a sS) (h : ∀ a sX' sK' sS', CX B sX' sK' → FR sS sS' → STm sS' (t + 1) → K a (sX', sK') a sS') : wp_X9_graph sX sT sB sD sR sK sM sJ sV sW p q (fun a u => wp_X10_graph sS sL p q (fun a' u' => K a u a' u')) := by
  unfold wp_X9_graph
  have hS := BF_SI hO 0
  have hl : (BF B 0).1.length ≤ 1000 := hS.1
  have hm : ∀ (X : Int32 → Prop), (IX q 5 → X 1) → (¬ IX q 5 → X 0) → wp_X10_in q.toInt64 (0 : Int64) (4 : Int64) X := fun X a b => sp_inI (n := 5) (by decide) (by decide) a b
  refine ⟨fun c => ?_, fun c => cls_ix2 (m := 4) (by decide) (fun hq => ?_) (fun hq => ?_)⟩
  · unfold wp_X10_graph
    exact ⟨fun _ => h0 _, fun z => absurd c z⟩
  · obtain ⟨k, hk, rfl⟩ := nI_of c
    refine sp_isLarge hO hB hX (fun sX' sK' x1 x2 x3 x4 => ?_)
    rw [bi_0]
    dsimp only
    refine ⟨fun cb => ?_, fun cb => ?_⟩
    · rw [x3.1.1, nI_ltI hk (by omega)]
      have mdl : ∀ (v : Int32) (sK2 : St), CX B sX' sK2 → (∀ s', MG s' (BF B 0).1 (t + 1) → PW s' → FR sS s' → Lp (F_X10_graph_31 s' sL (nI k) (fun a' u' => K v (sX', sK2) a' u') (fun q20 => ((q = (0 : Int32) → ((vp_in q20 1000 ∧ (K v (sX', sK2) (s' 23 q20.toNatClampNeg) s')))) ∧ (¬ q = (0 : Int32) → ((q = (1 : Int32) → ((vp_in q20 1000 ∧ (K v (sX', sK2) (s' 24 q20.toNatClampNeg) s')))) ∧ (¬ q = (1 : Int32) → ((q = (2 : Int32) → ((vp_in q20 1000 ∧ (K v (sX', sK2) (s' 25 q20.toNatClampNeg) s')))) ∧ (¬ q = (2 : Int32) → ((q = (3 : Int32) → (wp_X10_isRound s' sL q20 (fun r25 => ((r25 = 0 → (K v (sX', sK2) (0 : Int32) s')) ∧ (¬ r25 = 0 → (K v (sX', sK2) (1 : Int32) s')))))) ∧ (¬ q = (3 : Int32) → (wp_X10_isBad s' sL q20 (fun r27 => ((r27 = 0 → (K v (sX', sK2) (0 : Int32) s')) ∧ (¬ r27 = 0 → (K v (sX', sK2) (1 : Int32) s'))))))))))))))) (0 : Int32)) → wp_X10_graph sS sL (nI k) q (fun a' u' => K v (sX', sK2) a' u') := by
        intro v sK2 xx hL
        unfold wp_X10_graph
        refine ⟨fun z => absurd z c, fun _ => hm _ (fun _ => ⟨fun e => absurd e (by decide), fun _ => ?_⟩) (fun z => absurd hq z)⟩
        refine sp_layGraphs (out := 0) hO hM hp hst ht (by decide) (fun s' g1 g2 => ⟨fun c2 => ?_, fun c2 => hL s' g1 (g2.PW hp) g2⟩)
        rw [cb] at c2; exact absurd c2 (by decide)
      refine ⟨fun hkl => ?_, fun hkl => ?_⟩
      · refine sp_keyInOrder x3.1 hS x4 hkl (fun s M f49 f9 fo mp mo x hx => ?_)
        have hxM := List.mem_of_getElem? hx
        have hxL : x ∈ (BF B 0).1 := mp.mem_iff.mp hxM
        have hNV : NV x := hS.2.2 x hxL
        have xx : CX B sX' s := ⟨Or.inr ⟨x2, x3.f49 f49, fo⟩, fun d hd => by rw [f49 5 (by decide) (by decide), f49 6 (by decide) (by decide)]; exact x1.2 d hd⟩
        have hMs : M.Pairwise (fun x y => cd x < cd y) := by
          refine mo.imp_of_mem (fun ha hb hab => ?_)
          exact (key_cd (hS.2.2 _ (mp.mem_iff.mp ha)) (hS.2.2 _ (mp.mem_iff.mp hb))).mp hab
        obtain ⟨g0, hg0⟩ := List.getElem?_of_mem hxL
        have hg0l := (List.getElem?_eq_some_iff.mp hg0).1
        -- the model finds it
        have find : ∀ (s' : St) (X : Int32 → St → Prop) (E : Int32 → Prop), MG s' (BF B 0).1 (t + 1) → E (nI g0) → Lp (F_X10_graph_31 s' sL (nI k) X E) (0 : Int32) := by
          intro s' X E g1 hE
          refine lp_ind (fun q => ∃ g, g ≤ g0 ∧ q = nI g) (fun q => 1000 - q.toNatClampNeg) ?_ _ ⟨0, by omega, rfl⟩
          rintro _ R ⟨g, hg, rfl⟩ hR
          unfold F_X10_graph_31
          rw [g1.1, nI_leI (by omega) (by omega)]
          refine ⟨fun z => absurd z (by omega), fun _ => ?_⟩
          obtain ⟨y, hy⟩ : ∃ y, (BF B 0).1[g]? = some y := ⟨_, List.getElem?_eq_getElem (by omega)⟩
          refine sp_graph45 g1 hS.fl hy ?_
          obtain ⟨k', hk'⟩ := List.getElem?_of_mem (mp.mem_iff.mpr (List.mem_of_getElem? hy))
          have ea : ahd (BF B 0).1 y = k' := by rw [← ahd_perm mp]; exact ahd_at hMs hk'
          have hkl' := (List.getElem?_eq_some_iff.mp hk').1
          have hML := mp.length_eq
          rw [ea, nI_eq (by omega) hk]
          refine ⟨fun z => ?_, fun z => ?_⟩
          · subst z
            rw [hx] at hk'
            cases hk'
            have : g = g0 := by
              have a1 := (List.getElem?_eq_some_iff.mp hy).2
              have a2 := (List.getElem?_eq_some_iff.mp hg0).2
              exact (List.getElem_inj hS.2.1).mp (a1.trans a2.symm)
            subst this
            exact hE
          · rintro _ rfl
            rw [nI_1]
            have : g ≠ g0 := by
              intro e
              subst e
              rw [hg0] at hy
              cases hy
              have b1 := ahd_at hMs hx
              have b2 := ahd_at hMs hk'
              omega
            refine hR _ ⟨g + 1, by omega, rfl⟩ ?_
            rw [nI_clamp (by omega), nI_clamp (by omega)]; omega
        have ig : vp_in (nI g0) 1000 := vp_in_nI (by omega) (by decide)
        have hcl : (nI g0).toNatClampNeg = g0 := nI_clamp (by omega)
        refine ⟨fun e0 => sp_kfrom hNV (mdl _ _ xx (fun s' g1 g2 g3 => find s' _ _ g1 ⟨fun _ => ⟨ig, ?_⟩, fun z => absurd e0 z⟩)), fun n0 => ⟨fun e1 => sp_kto hNV (mdl _ _ xx (fun s' g1 g2 g3 => find s' _ _ g1 ⟨fun z => absurd z n0, fun _ => ⟨fun _ => ⟨ig, ?_⟩, fun z => absurd e1 z⟩⟩)), fun n1 => ⟨fun e2 => sp_karcs hNV (sp_toNumber hNV.2.2.1 (mdl _ _ xx (fun s' g1 g2 g3 => find s' _ _ g1 ⟨fun z => absurd z n0, fun _ => ⟨fun z => absurd z n1, fun _ => ⟨fun _ => ⟨ig, ?_⟩, fun z => absurd e2 z⟩⟩⟩))), fun n2 => ⟨fun e3 => sp_kround hNV ?_, fun n3 => sp_kbad hNV ?_⟩⟩⟩⟩
        · rw [hcl, (g1.2.1 g0 x hg0).1]; exact h _ _ _ _ xx g3 g1.st
        · rw [hcl, (g1.2.1 g0 x hg0).2.1]; exact h _ _ _ _ xx g3 g1.st
        · rw [hcl, (g1.2.1 g0 x hg0).2.2]; exact h _ _ _ _ xx g3 g1.st
        · have run : ∀ v : Int32, v = bi (rdb x) → wp_X10_graph sS sL (nI k) q (fun a' u' => K v (sX', s) a' u') := by
            intro v hv
            refine mdl _ _ xx (fun s' g1 g2 g3 => find s' _ _ g1 ⟨fun z => absurd z n0, fun _ => ⟨fun z => absurd z n1, fun _ => ⟨fun z => absurd z n2, fun _ => ⟨fun _ => sp_isRoundM g2 g1 hl hg0 hNV ?_, fun z => absurd e3 z⟩⟩⟩⟩)
            rw [bi_0]
            refine ⟨fun z => ?_, fun z => ?_⟩
            · rw [z] at hv; subst hv; exact h _ _ _ _ xx g3 g1.st
            · rw [bt_of z] at hv; subst hv; exact h _ _ _ _ xx g3 g1.st
          rw [bi_0]
          exact ⟨fun z => run _ (by rw [z]; rfl), fun z => run _ (by rw [bt_of z]; rfl)⟩
        · have run : ∀ v : Int32, v = bi (badb x) → wp_X10_graph sS sL (nI k) q (fun a' u' => K v (sX', s) a' u') := by
            intro v hv
            refine mdl _ _ xx (fun s' g1 g2 g3 => find s' _ _ g1 ⟨fun z => absurd z n0, fun _ => ⟨fun z => absurd z n1, fun _ => ⟨fun z => absurd z n2, fun _ => ⟨fun z => absurd z n3, fun _ => sp_isBadM g2 g1 hl hg0 hNV ?_⟩⟩⟩⟩)
            rw [bi_0]
            refine ⟨fun z => ?_, fun z => ?_⟩
            · rw [z] at hv; subst hv; exact h _ _ _ _ xx g3 g1.st
            · rw [bt_of z] at hv; subst hv; exact h _ _ _ _ xx g3 g1.st
          rw [bi_0]
          exact ⟨fun z => run _ (by rw [z]; rfl), fun z => run _ (by rw [bt_of z]; rfl)⟩
      · refine mdl _ _ x1 (fun s' g1 g2 g3 => ?_)
        refine lp_ind (fun q => ∃ g, g ≤ (BF B 0).1.length ∧ q = nI g) (fun q => 1000 - q.toNatClampNeg) ?_ _ ⟨0, by omega, rfl⟩
        rintro _ R ⟨g, hg, rfl⟩ hR
        unfold F_X10_graph_31
        rw [g1.1, nI_leI (by omega) (by omega)]
        refine ⟨fun _ => h _ _ _ _ x1 g3 g1.st, fun z => ?_⟩
        obtain ⟨y, hy⟩ : ∃ y, (BF B 0).1[g]? = some y := ⟨_, List.getElem?_eq_getElem (by omega)⟩
        refine sp_graph45 g1 hS.fl hy ?_
        have hlt : ahd (BF B 0).1 y < (BF B 0).1.length := by
          have hle : ahd (BF B 0).1 y ≤ (BF B 0).1.length := List.countP_le_length
          rcases Nat.lt_or_ge (ahd (BF B 0).1 y) (BF B 0).1.length with w | w
          · exact w
          · exfalso
            have e9 : ahd (BF B 0).1 y = (BF B 0).1.length := by omega
            have := List.countP_eq_length.mp e9 y (List.mem_of_getElem? hy)
            have := of_decide_eq_true this
            omega
        rw [nI_eq (by omega) hk]
        refine ⟨fun w => absurd w (by omega), fun _ => ?_⟩
        rintro _ rfl
        rw [nI_1]
        refine hR _ ⟨g + 1, by omega, rfl⟩ ?_
        rw [nI_clamp (by omega), nI_clamp (by omega)]; omega
    · unfold wp_X10_graph
      refine ⟨fun z => absurd z c, fun _ => hm _ (fun _ => ⟨fun e => absurd e (by decide), fun _ => ?_⟩) (fun z => absurd hq z)⟩
      refine sp_layGraphs (out := 0) hO hM hp hst ht (by decide) (fun s' g1 g2 => ⟨fun c2 => h _ _ _ _ x1 g2 g1.st, fun c2 => ?_⟩)
      rw [bt_of cb] at c2; exact absurd rfl c2
  · unfold wp_X10_graph
    exact ⟨fun z => absurd z c, fun _ => hm _ (fun z => absurd z hq) (fun _ => ⟨fun _ => h0 _, fun e => absurd rfl e⟩)⟩
end GRAPHO
