section SHORT3
variable {B : BK} {sX sT sB sD sR sK sM sJ sV : St} {sW : Int64} {sS : St} {sL : Int64} {t : Nat}
/-- what the class finds: the least BAD way -/
def CBW (B : BK) (L : List Nd) (PC : Nat → Nat) (a n w : Nat) : Prop := a ≤ L.length ∧ DW PC n w a ∧ n ≤ 1000 ∧ ((a = 0 ∧ ∀ x ∈ L, badb x = false) ∨ (a ≠ 0 ∧ LBW B L n w))
theorem BD_cbw {B : BK} {L : List Nd} {PC : Nat → Nat} {f1 f2 : Nat → Int32} {m : Nat} {s : St} (hN : bN B ≤ 8) (hl : L.length ≤ 1000) (hnd : L.Nodup) (h : TRE B 0 L PC f1 f2 m) (h3 : ∀ q x, q < 8 * (L.length + 1) → TG B 0 L q x → ∃ i, L[i]? = some x ∧ PC i ≤ q) (hD : BD s L L.length) : ∃ a n w, s 10 0 = nI a - 1 ∧ CBW B L PC a n w := by
  rcases hD.1 with ⟨a1, a2⟩ | ⟨j, y, a1, a2, a3, a4, a5⟩
  · refine ⟨0, 0, 0, by rw [a1]; decide, Nat.zero_le _, ⟨rfl, rfl⟩, by omega, Or.inl ⟨rfl, fun x hx => ?_⟩⟩
    obtain ⟨i, hi⟩ := List.getElem?_of_mem hx
    exact a2 i x (List.getElem?_eq_some_iff.mp hi).1 hi
  · obtain ⟨n, w, hna, hd⟩ := DW_ex h (j + 1) (by omega)
    have hn1 : 1 ≤ n := by
      cases n with
      | zero => exact absurd hd.1 (by omega)
      | succ n => omega
    have key : ∀ k x n' w', L[k]? = some x → badb x = true → WY B L n' w' k → n < n' ∨ (n = n' ∧ w ≤ w') := by
      intro k x n' w' hk hb hW
      have hkl := (List.getElem?_eq_some_iff.mp hk).1
      obtain ⟨nk, wk, -, hdk⟩ := DW_ex h (k + 1) (by omega)
      have h4 := WY_ge h h3 hN hnd n' w' k hW nk wk hdk
      have hjk : j ≤ k := by
        rcases Nat.lt_or_ge k j with q | q
        · have := a5 k x q hk
          rw [hb] at this; cases this
        · exact q
      by_cases e : j = k
      · subst e
        obtain ⟨e1, e2⟩ := DW_uni n nk w wk _ hd hdk
        omega
      · have := DW_lt h n nk w wk (j + 1) (k + 1) (by omega) (by omega) hd hdk
        omega
    refine ⟨j + 1, n, w, by rw [a4, nI_pred], by omega, hd, by omega, Or.inr ⟨by omega, hn1, fun n' hn' k x w' hk hb hW => ?_, ⟨j, y, a2, a3, DW_WY h n w (j + 1) (by omega) (by omega) hd⟩, fun k x w' hk hb hW => ?_⟩⟩
    · have := key k x n' w' hk hb hW
      omega
    · have := key k x n w' hk hb hW
      omega
theorem LBW.uni {B : BK} {L : List Nd} {n w n' w' : Nat} (h : LBW B L n w) (h' : LBW B L n' w') : n = n' ∧ w = w' := by
  obtain ⟨-, a2, ⟨k, x, a3, a4, a5⟩, a6⟩ := h
  obtain ⟨-, b2, ⟨k', x', b3, b4, b5⟩, b6⟩ := h'
  have e : n = n' := by
    rcases Nat.lt_trichotomy n n' with q | q | q
    · exact absurd a5 (b2 n q k x w a3 a4)
    · exact q
    · exact absurd b5 (a2 n' q k' x' w' b3 b4)
  subst e
  have := a6 k' x' w' b3 b4 b5
  have := b6 k x w a3 a4 a5
  exact ⟨rfl, by omega⟩
theorem dig8 {w n k : Nat} (hw : w < 16777216) (hn : n ≤ 8) (hk : k < n) : (nI w >>> (((3 : Int32) * ((nI n - (1 : Int32)) - nI k)) &&& 31)) &&& (7 : Int32) = nI (w / 8 ^ (n - 1 - k) % 8) := by
  rw [nI_sub1 (by omega), pk_sub (by omega), show (3 : Int32) * nI (n - 1 - k) = nI (3 * (n - 1 - k)) by rw [← pk_mul]; rfl, shr_nI (by omega) (by omega), pk_andN (m := (7 : Int32)) (by have := Nat.div_le_self w (2 ^ (3 * (n - 1 - k))); omega) 3 (by decide), Nat.pow_mul]
theorem op_shortest (hO : OKb B) (hB : CB sB B) (hM : MB sS B) (hp : PW sS) (hst : STm sS t) (ht : t < 2000000000) (hX : CX B sX sK) {p : Int32} {K : Int32 → (St × St) → Int32 → St → Prop} (h0 : ∀ a, K a (sX, sK) a sS) (h : ∀ a sX' sK' sS', CX B sX' sK' → KP sS sS' → STm sS' (t + 1) → K a (sX', sK') a sS') : wp_X9_shortest sX sT sB sD sR sK sM sJ sV sW p (fun a u => wp_X10_shortest sS sL p (fun a' u' => K a u a' u')) := by
  unfold wp_X9_shortest
  have hN := hO.1
  have hS := BF_SI hO 0
  have hl : (BF B 0).1.length ≤ 1000 := hS.1
  refine ⟨fun c1 => ?_, fun c1 => ?_⟩
  · refine sp_isLarge hO hB hX (fun sX' sK' x1 x2 x3 x4 => ?_)
    rw [bi_0]
    dsimp only
    refine ⟨fun c => ?_, fun c => ?_⟩
    · obtain ⟨hT, hD⟩ := x3.2 c
      obtain ⟨PC, hTR, hcm⟩ := hT.tre
      obtain ⟨a, n, w, e10, ha, hdw, hn, hor⟩ := BD_cbw hN hl hS.2.1 hTR (hcm c) hD
      have h7 := x3.1.1
      have hCL := BF_all hO c
      have mdl : ∀ v : Int32, (∀ u', KP sS u' → STm u' (t + 1) → (∀ n, n ≤ 8 → NBd B (BF B 0).1 n) → K v (sX', sK') (-9) u') → (∀ u', KP sS u' → STm u' (t + 1) → ∀ n w, LBW B (BF B 0).1 n w → n ≤ 8 → w < 16777216 → u' 31 0 = nI w → (0 ≤ p → (nI n ≤ p → K v (sX', sK') (-1) u') ∧ (¬ nI n ≤ p → K v (sX', sK') ((u' 31 0 >>> (((3 : Int32) * ((nI n - (1 : Int32)) - p)) &&& 31)) &&& (7 : Int32)) u')) ∧ (¬ 0 ≤ p → K v (sX', sK') (nI n) u')) → wp_X10_shortest sS sL p (fun a' u' => K v (sX', sK') a' u') := by
        intro v v1 v2
        unfold wp_X10_shortest
        refine ⟨fun _ => ?_, fun z => absurd c1 z⟩
        refine sp_layGraphs (out := 0) hO hM hp hst ht (by decide) (fun s' g1 g2 => ⟨fun c2 => ?_, fun c2 => ?_⟩)
        · rw [c] at c2; exact absurd c2 (by decide)
        · have st' : ∀ u', FQ s' u' → STm u' (t + 1) := fun u' hq => (hq.mg g1).st
          refine sp_layShortest hO (g2.MB hM) (g2.PW hp) g1 hS.fl hCL (fun hnb u' hq => ⟨fun _ => ?_, fun z => absurd rfl z⟩) (fun n' w' hb hn8 hw u' hq e31 => ⟨fun z => ?_, fun _ => ?_⟩)
          · exact v1 u' (g2.kp.tr hq.kp) (st' u' hq) hnb
          · exact absurd z.symm (n9_ne (by omega))
          · exact v2 u' (g2.kp.tr hq.kp) (st' u' hq) n' w' hb hn8 hw e31
      rw [e10]
      refine sp_wayLen h7 hl hTR ha hdw hn ?_
      rw [nI_z (by omega), show (8 : Int32) = nI 8 from rfl, nI_leI (by omega) (by decide)]
      rcases hor with ⟨r1, r2⟩ | ⟨r1, r2⟩
      · have hn0 : n = 0 := by
          subst r1
          exact (DW_uni n 0 w 0 0 hdw ⟨rfl, rfl⟩).1
        refine ⟨fun _ => mdl _ (fun u' k1 k2 _ => h _ _ _ _ x1 k1 k2) (fun u' k1 k2 n' w' hb => ?_), fun z => absurd hn0 z⟩
        obtain ⟨-, -, ⟨k, x, b3, b4, b5⟩, -⟩ := hb
        have := r2 x (List.mem_of_getElem? b3)
        rw [b4] at this; cases this
      · have hn1 := r2.1
        refine ⟨fun z => by omega, fun _ => ⟨fun c3 => ?_, fun c3 => ?_⟩⟩
        · have hw24 : w < 16777216 := by
            obtain ⟨-, -, ⟨k, x, b3, b4, b5⟩, -⟩ := r2
            exact w24 hN c3 b5
          have mdl2 : ∀ v : Int32, ((0 ≤ p → (nI n ≤ p → v = -1) ∧ (¬ nI n ≤ p → v = ((nI w >>> (((3 : Int32) * ((nI n - (1 : Int32)) - p)) &&& 31)) &&& (7 : Int32)))) ∧ (¬ 0 ≤ p → v = nI n)) → wp_X10_shortest sS sL p (fun a' u' => K v (sX', sK') a' u') := by
            intro v hv
            refine mdl v (fun u' k1 k2 hnb => ?_) (fun u' k1 k2 n' w' hb hn8 hw e31 => ?_)
            · obtain ⟨-, -, ⟨k, x, b3, b4, b5⟩, -⟩ := r2
              exact absurd b5 (hnb n c3 k x w b3 b4)
            · obtain ⟨e1, e2⟩ := r2.uni hb
              subst e1
              subst e2
              rw [e31]
              refine ⟨fun q1 => ⟨fun q2 => ?_, fun q2 => ?_⟩, fun q1 => ?_⟩
              · rw [(hv.1 q1).1 q2]; exact h _ _ _ _ x1 k1 k2
              · rw [← (hv.1 q1).2 q2]; exact h _ _ _ _ x1 k1 k2
              · rw [hv.2 q1]; exact h _ _ _ _ x1 k1 k2
          refine ⟨fun c4 => mdl2 _ ⟨fun q => ?_, fun _ => rfl⟩, fun c4 => ?_⟩
          · rw [c4] at q; exact absurd q (by decide)
          · have hp0 : 0 ≤ p := by
              rw [ile] at c1 ⊢
              have z1 : (-1 : Int32).toInt = -1 := by decide
              have z0 : (0 : Int32).toInt = 0 := by decide
              have : p.toInt ≠ (-1 : Int32).toInt := fun e => c4 (Int32.toInt_inj.mp e)
              omega
            refine ⟨fun c5 => mdl2 _ ⟨fun _ => ⟨fun _ => rfl, fun z => absurd c5 z⟩, fun z => absurd hp0 z⟩, fun c5 => ?_⟩
            obtain ⟨k, hk, rfl⟩ : ∃ k, k < n ∧ p = nI k := by
              have : IX p n := (IX_iff (by omega)).mpr (by
                rw [ile] at hp0 c5
                have z0 : (0 : Int32).toInt = 0 := by decide
                rw [nI_toInt (by omega)] at c5
                omega)
              exact this
            refine sp_callOn h7 hl hTR ha hdw hn hk ?_
            exact mdl2 _ ⟨fun _ => ⟨fun z => absurd z c5, fun _ => (dig8 hw24 c3 hk).symm⟩, fun z => absurd hp0 z⟩
        · refine mdl _ (fun u' k1 k2 _ => h _ _ _ _ x1 k1 k2) (fun u' k1 k2 n' w' hb hn8 => ?_)
          have := (r2.uni hb).1
          omega
    · unfold wp_X10_shortest
      refine ⟨fun _ => ?_, fun z => absurd c1 z⟩
      refine sp_layGraphs (out := 0) hO hM hp hst ht (by decide) (fun s' g1 g2 => ⟨fun c2 => h _ _ _ _ x1 g2.kp g1.st, fun c2 => ?_⟩)
      rw [bt_of c] at c2; exact absurd rfl c2
  · unfold wp_X10_shortest
    exact ⟨fun z => absurd z c1, fun _ => h0 _⟩
end SHORT3
