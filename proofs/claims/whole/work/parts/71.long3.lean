/-- the class's rows of the search -/
def REP (sV : St) (v0 : Nat → Int32) (d : Nat) (mk st nc lg : Nat → Nat) : Prop := sV 0 = v0 ∧ sV 5 0 = nI d ∧ (∀ j, j < d → sV 2 j = nI (st j)) ∧ (∀ t, t < 256 → sV 1 t = nI (mk t)) ∧ ∀ t, t < 256 → mk t ≠ 0 → sV 3 t = nI (nc t) ∧ sV 4 t = nI (lg t)
section REPS
variable {sV : St} {v0 : Nat → Int32} {d : Nat} {mk st nc lg : Nat → Nat}
theorem sp_open (hr : REP sV v0 d mk st nc lg) (hd : d < 256) {g : Nat} (hg : g < 256) (hn : nc g = 0) {K : St → Prop} (h : ∀ s', REP s' v0 (d + 1) (up mk g 1) (up st d g) nc (up lg g 0) → K s') : wp_X6_openState sV (nI g) K := by
  obtain ⟨r0, r5, r2, r1, r34⟩ := hr
  unfold wp_X6_openState
  have ig : vp_in (nI g) 256 := vp_in_nI hg (by decide)
  have gc : (nI g).toNatClampNeg = g := nI_clamp (by omega)
  have dc : (nI d).toNatClampNeg = d := nI_clamp (by omega)
  rw [r5, show (256 : Int32) = nI 256 from rfl, nI_leI (by omega) (by omega)]
  refine ⟨fun c => absurd c (by omega), fun _ => ⟨ig, ?_⟩⟩
  rintro _ rfl
  refine ⟨ig, ?_⟩
  rintro _ rfl
  refine ⟨ig, ?_⟩
  rintro _ rfl
  have e5 : (ua (ua (ua sV 1 (nI g) 1) 3 (nI g) 0) 4 (nI g) 0) 5 = sV 5 := by rw [ua_n (by decide), ua_n (by decide), ua_n (by decide)]
  rw [e5, r5]
  refine ⟨vp_in_nI hd (by decide), ?_⟩
  rintro _ rfl _ rfl
  rw [ua_n (j := 5) (by decide), e5, r5, nI_1]
  refine h _ ⟨?_, ?_, fun j hj => ?_, fun t ht => ?_, fun t ht hm => ⟨?_, ?_⟩⟩
  · rw [us_n (by decide), ua_n (by decide), ua_n (by decide), ua_n (by decide), ua_n (by decide)]; exact r0
  · rw [us_s]
  · rw [us_n (by decide), ua_s, ua_n (by decide), ua_n (by decide), ua_n (by decide), dc]
    by_cases e : j = d
    · subst e; rw [pk_us, up_s]
    · rw [pk_un e, up_n e]; exact r2 j (by omega)
  · rw [us_n (by decide), ua_n (by decide), ua_n (by decide), ua_n (by decide), ua_s, gc]
    by_cases e : t = g
    · subst e; rw [pk_us, up_s]; rfl
    · rw [pk_un e, up_n e]; exact r1 t ht
  · rw [us_n (by decide), ua_n (by decide), ua_n (by decide), ua_s, ua_n (by decide), gc]
    by_cases e : t = g
    · subst e; rw [pk_us, hn]; rfl
    · rw [up_n e] at hm
      rw [pk_un e]; exact (r34 t ht hm).1
  · rw [us_n (by decide), ua_n (by decide), ua_s, ua_n (by decide), ua_n (by decide), gc]
    by_cases e : t = g
    · subst e; rw [pk_us, up_s]; rfl
    · rw [up_n e] at hm
      rw [pk_un e, up_n e]; exact (r34 t ht hm).2
theorem nI_mx {a b : Nat} (ha : a < 2 ^ 31) (hb : b < 2 ^ 31) : (if nI a < nI b then nI b else nI a) = nI (if a < b then b else a) := by
  by_cases c : a < b
  · rw [if_pos c, if_pos ((nI_ltI ha hb).mpr c)]
  · rw [if_neg c, if_neg (fun z => c ((nI_ltI ha hb).mp z))]
theorem sp_lengthen (hr : REP sV v0 d mk st nc lg) {p a : Nat} (hp : p < 256) (ha : a < 256) (mp : mk p ≠ 0) (ma : mk a ≠ 0) (lp : lg p < 2 ^ 30) (la : lg a < 2 ^ 30) {K : St → Prop} (h : ∀ s', REP s' v0 d mk st nc (up lg p (if lg p < lg a + 1 then lg a + 1 else lg p)) → K s') : wp_X6_lengthen sV (nI p) (nI a) K := by
  obtain ⟨r0, r5, r2, r1, r34⟩ := hr
  unfold wp_X6_lengthen
  have pc : (nI p).toNatClampNeg = p := nI_clamp (by omega)
  have ac : (nI a).toNatClampNeg = a := nI_clamp (by omega)
  have ip : vp_in (nI p) 256 := vp_in_nI hp (by decide)
  rw [pc, ac, (r34 p hp mp).2, (r34 a ha ma).2, nI_1, nI_mx (by omega) (by omega)]
  refine ⟨ip, vp_in_nI ha (by decide), ip, ?_⟩
  rintro _ rfl
  refine h _ ⟨by rw [ua_n (by decide)]; exact r0, by rw [ua_n (by decide)]; exact r5, fun j hj => by rw [ua_n (by decide)]; exact r2 j hj, fun t ht => by rw [ua_n (by decide)]; exact r1 t ht, fun t ht hm => ⟨by rw [ua_n (by decide)]; exact (r34 t ht hm).1, ?_⟩⟩
  rw [ua_s, pc]
  by_cases e : t = p
  · subst e; rw [pk_us, up_s]
  · rw [pk_un e, up_n e]; exact (r34 t ht hm).2
theorem sp_close (hr : REP sV v0 d mk st nc lg) (hd : 0 < d) (hdb : d ≤ 256) {a : Nat} (ha : a < 256) (ma : mk a ≠ 0) (hst : 1 < d → st (d - 2) < 256 ∧ mk (st (d - 2)) ≠ 0) (hlg : ∀ t, t < 256 → mk t ≠ 0 → lg t < 2 ^ 30) {K : St → Prop} (h : ∀ s', REP s' v0 (d - 1) (up mk a 2) st nc (if 1 < d then up lg (st (d - 2)) (if lg (st (d - 2)) < lg a + 1 then lg a + 1 else lg (st (d - 2))) else lg) → K s') : wp_X6_closeState sV (nI a) K := by
  have hr' := hr
  obtain ⟨r0, r5, r2, r1, r34⟩ := hr
  unfold wp_X6_closeState
  have ac : (nI a).toNatClampNeg = a := nI_clamp (by omega)
  refine ⟨vp_in_nI ha (by decide), ?_⟩
  rintro _ rfl _ rfl
  rw [ua_n (j := 5) (by decide), r5, nI_sub1 hd]
  have hz : REP (us (ua sV 1 (nI a) 2) 5 (nI (d - 1))) v0 (d - 1) (up mk a 2) st nc lg := by
    refine ⟨by rw [us_n (by decide), ua_n (by decide)]; exact r0, by rw [us_s], fun j hj => by rw [us_n (by decide), ua_n (by decide)]; exact r2 j (by omega), fun t ht => ?_, fun t ht hm => ?_⟩
    · rw [us_n (by decide), ua_s, ac]
      by_cases e : t = a
      · subst e; rw [pk_us, up_s]; rfl
      · rw [pk_un e, up_n e]; exact r1 t ht
    · rw [us_n (by decide), ua_n (by decide), us_n (by decide), ua_n (by decide)]
      by_cases e : t = a
      · subst e; exact r34 t ht ma
      · rw [up_n e] at hm; exact r34 t ht hm
  generalize us (ua sV 1 (nI a) 2) 5 (nI (d - 1)) = z2 at hz ⊢
  rw [hz.2.1, nIle0 (by omega)]
  refine ⟨fun c => h _ ?_, fun c => ?_⟩
  · rw [if_neg (by omega)]; exact hz
  · rw [nI_sub1 (by omega), show d - 1 - 1 = d - 2 by omega, nI_clamp (n := d - 2) (by omega), hz.2.2.1 (d - 2) (by omega)]
    obtain ⟨s1, s2⟩ := hst (by omega)
    have hl1 := hlg _ s1 s2
    have hl2 := hlg _ ha ma
    refine ⟨vp_in_nI (by omega) (by decide), sp_lengthen hz s1 ha ?_ (by rw [up_s]; omega) hl1 hl2 (fun s' hs' => h s' ?_)⟩
    · by_cases e : st (d - 2) = a
      · rw [e, up_s]; omega
      · rw [up_n e]; exact s2
    · rw [if_pos (by omega)]; exact hs'
end REPS
theorem up_id {f : Nat → Nat} (a : Nat) : up f a (f a) = f := by
  funext t
  by_cases e : t = a
  · subst e; rw [up_s]
  · rw [up_n e]
section LFROM
variable {B : BK} {sB sV : St} {M own : Nat}
theorem LOG.le {d n : Nat} {mk st nc lg : Nat → Nat} (hN : bN B ≤ 8) (h : LOG B M own d mk st nc lg n) : n ≤ 2304 := by
  obtain ⟨h1, h2, h3, h4, h5, h6, h7⟩ := h
  have e2 := sumc_le (f := nc) (k := 9) 256 (fun i hi => by rcases h3 i hi with ⟨_, e⟩ | ⟨_, e, _⟩ | ⟨_, e, _⟩ <;> omega)
  omega
set_option maxHeartbeats 2000000 in
theorem sp_long20 (hO : OKb B) (hB : CB sB B) (hM3 : M ≤ 3) {v0 : Nat → Int32} (hv0 : v0 0 = nI M) {K : Int32 → St → Prop} (h : ∀ A s', AL B M own A → s' 0 = v0 → K A s') {s0 : St} {d0 : Nat} {mk0 st0 nc0 lg0 : Nat → Nat} {n0 : Nat} (hn0 : n0 = 0) (hR0 : REP s0 v0 d0 mk0 st0 nc0 lg0) (hL0 : LOG B M own d0 mk0 st0 nc0 lg0 n0) : Lp (F_X6_longestFrom_20 sB (nI own) K) ((0 : Int32), s0) := by
  have hN := hO.1
  refine lp_ind (fun q => ∃ n s d mk st nc lg, q = (nI n, s) ∧ REP s v0 d mk st nc lg ∧ LOG B M own d mk st nc lg n) (fun q => 2305 - q.1.toNatClampNeg) ?_ _ ⟨n0, s0, d0, mk0, st0, nc0, lg0, by rw [hn0]; rfl, hR0, hL0⟩
  rintro _ R ⟨n, s, d, mk, st, nc, lg, rfl, hr, hl⟩ hR
  have hr' := hr
  have hl' := hl
  have hn4 := hl.le hN
  obtain ⟨r0, r5, r2, r1, r34⟩ := hr
  obtain ⟨h1, h2, h3, h4, h5, ⟨o1, o2, o3⟩, h7⟩ := hl
  have hdb : d ≤ 256 := php 256 d st (fun p hp => (h1 p hp).1) h2
  unfold F_X6_longestFrom_20
  dsimp only
  have oc : (nI own).toNatClampNeg = own := nI_clamp (by omega)
  have io : vp_in (nI own) 256 := vp_in_nI o1 (by decide)
  have fin : d = 0 → vp_in (nI own) 256 ∧ K (s 4 (nI own).toNatClampNeg) s := by
    intro e
    refine ⟨io, ?_⟩
    rw [oc, (r34 own o1 o2).2]
    rcases h3 own o1 with q | ⟨_, _, _, j, q, _⟩ | ⟨_, _, _, q⟩
    · exact absurd q.1 o2
    · omega
    · exact h _ _ (Or.inl ⟨_, q, rfl⟩) r0
  have hvs : s 0 0 = nI M := by rw [r0]; exact hv0
  rw [show (2304 : Int32) = nI 2304 from rfl, nI_leI (by omega) (by omega), r5, nIle0 (by omega)]
  refine ⟨fun c => fin ?_, fun c => ⟨fun c2 => fin c2, fun c2 => ?_⟩⟩
  · rcases Nat.eq_zero_or_pos d with q | q
    · exact q
    · have := hl'.lt hN q; omega
  have hd : 0 < d := by omega
  obtain ⟨a256, am⟩ := h1 (d - 1) (by omega)
  obtain ⟨a, ha⟩ : ∃ a, st (d - 1) = a := ⟨_, rfl⟩
  rw [nI_sub1 hd, nI_clamp (n := d - 1) (by omega), r2 (d - 1) (by omega)]
  rw [ha] at a256 am ⊢
  refine ⟨vp_in_nI (by omega) (by decide), ?_⟩
  rintro _ rfl
  have ac : (nI a).toNatClampNeg = a := nI_clamp (by omega)
  have ia : vp_in (nI a) 256 := vp_in_nI a256 (by decide)
  have hma : mk a ≠ 0 := by omega
  have hnca : nc a ≤ bN B := by rcases h3 a a256 with q | ⟨_, q, _⟩ | q; omega; exact q; omega
  have lgb : ∀ t, t < 256 → mk t ≠ 0 → lg t ≤ n := by
    intro t ht hm
    rcases h3 t ht with q | ⟨_, _, q, _⟩ | ⟨_, _, q, _⟩
    · exact absurd q.1 hm
    · exact q
    · exact q
  rw [ac, (r34 a a256 hma).1]
  refine ⟨ia, ?_⟩
  rintro _ rfl
  refine ⟨ia, ia, ?_⟩
  rintro _ rfl
  rw [nI_1]
  have hz : REP (ua s 3 (nI a) (nI (nc a + 1))) v0 d mk st (up nc a (nc a + 1)) lg := by
    refine ⟨by rw [ua_n (by decide)]; exact r0, by rw [ua_n (by decide)]; exact r5, fun j hj => by rw [ua_n (by decide)]; exact r2 j hj, fun t ht => by rw [ua_n (by decide)]; exact r1 t ht, fun t ht hm => ⟨?_, by rw [ua_n (by decide)]; exact (r34 t ht hm).2⟩⟩
    rw [ua_s, ac]
    by_cases e : t = a
    · subst e; rw [pk_us, up_s]
    · rw [pk_un e, up_n e]; exact (r34 t ht hm).1
  have hz0 : (ua s 3 (nI a) (nI (nc a + 1))) 0 0 = nI M := by rw [ua_n (by decide)]; exact hvs
  generalize ua s 3 (nI a) (nI (nc a + 1)) = z9 at hz hz0 ⊢
  have next : ∀ (s' : St) (d' : Nat) (mk' st' nc' lg' : Nat → Nat), REP s' v0 d' mk' st' nc' lg' → LOG B M own d' mk' st' nc' lg' (n + 1) → R (nI n + 1, s') := by
    intro s' d' mk' st' nc' lg' e1 e2
    rw [nI_1]
    refine hR _ ⟨n + 1, s', d', mk', st', nc', lg', rfl, e1, e2⟩ ?_
    have := hl'.lt hN hd
    dsimp only; rw [nI_clamp (by omega), nI_clamp (by omega)]; omega
  refine sp_hasCall hO hB (fun hc => ⟨fun e => absurd e (by decide), fun _ => ?_⟩) (fun hc => ⟨fun _ => ?_, fun e => absurd rfl e⟩)
  · have hcN : nc a < bN B := IX_nI (by omega) (by omega) hc
    obtain ⟨ef, et, ea⟩ := hB.2.2 _ hcN
    have f4 := (hO.2.2 _ hcN).1
    have hP : LPt B M a (nc a) (lg a) := by have := h4 (d - 1) (by omega); rw [ha] at this; exact this
    have skip : (∀ g, ¬ EG B M (nc a) a g) → R (nI n + 1, z9) := by
      intro hno
      have := hl'.step hd ha (v := lg a) (by omega) (by have := lgb a a256 hma; omega) (hP.skip hno)
      rw [up_id] at this
      exact next z9 d mk st _ lg hz this
    rw [nI_clamp (n := nc a) (by omega), ef, show nI a >>> ((6 : Int32) &&& 31) = nI (a / 2 ^ 6) from shr_nI (k := 6) (by omega) (by decide), nI_eq (by omega) (by omega), show a / 2 ^ 6 = a / 64 from rfl]
    refine ⟨vp_in_nI (by omega) (by decide), fun c3 => ?_, fun c3 => ?_⟩
    · unfold wp_X6_goesBy
      refine sp_greatestAfter hO hB hz0 hM3 hcN a256 ?_
      cases e : gaf B M (nc a) a with
      | none =>
        simp only [oI]
        refine ⟨fun z => absurd z (by decide), fun _ => ⟨fun z => absurd z (by decide), fun _ => ?_⟩⟩
        rintro _ rfl
        refine skip (fun g hE => ?_)
        have := hE.2.2
        rw [e] at this; cases this
      | some g =>
        have hE : EG B M (nc a) a g := ⟨hcN, c3, e⟩
        have hok := (hE.go hO hM3).1
        have hg := hok.1
        simp only [oI]
        have ig : vp_in (nI g) 256 := vp_in_nI hg (by decide)
        have em : z9 1 g = nI (mk g) := hz.2.2.2.1 g hg
        have hmk2 : mk g ≤ 2 := by rcases h3 g hg with q | q | q <;> omega
        have e1 : nI (mk g) = (1 : Int32) ↔ mk g = 1 := nI_eq (b := 1) (by omega) (by decide)
        rw [nI_clamp (n := g) (by omega), em, e1, nI_z (by omega)]
        refine ⟨fun _ => ⟨ig, fun c4 => ⟨fun _ => ?_, fun z => absurd trivial z⟩, fun c4 => ⟨ig, fun c5 => ?_, fun c5 => ?_⟩⟩, fun z => absurd (nI_pos' (by omega)) z⟩
        · exact h _ _ (Or.inr ⟨hl'.rnd hO hM3 hd ha hE hg c4, rfl⟩) hz.1
        · have hL2 := hl'.opn hd ha hcN hE hg c5
          have hd2 : d + 1 ≤ 256 := php 256 (d + 1) (up st d g) (fun p hp => (hL2.1 p hp).1) hL2.2.1
          have hng : (up nc a (nc a + 1)) g = 0 := by
            have hga : g ≠ a := fun z => by rw [z] at c5; omega
            rw [up_n hga]
            rcases h3 g hg with q | q | q
            · exact q.2
            · omega
            · omega
          refine sp_open hz (by omega) hg hng (fun s' hs' => ⟨fun z => absurd z (by decide), fun _ => ?_⟩)
          rintro _ rfl
          exact next _ _ _ _ _ _ hs' hL2
        · have hm2 : mk g = 2 := by omega
          have hx : LX B M (lg g) g := by
            rcases h3 g hg with q | q | ⟨_, _, _, q⟩
            · omega
            · omega
            · exact q
          have hlga := lgb a a256 hma
          have hlgg := lgb g hg (by omega)
          refine sp_lengthen hz a256 hg hma (by omega) (by omega) (by omega) (fun s' hs' => ⟨fun z => absurd z (by decide), fun _ => ?_⟩)
          rintro _ rfl
          have := hl'.step hd ha (v := if lg a < lg g + 1 then lg g + 1 else lg a) (by omega) (by split <;> omega) (hP.len hE hx)
          exact next _ _ _ _ _ _ hs' this
    · rintro _ rfl
      exact skip (fun g hE => c3 hE.2.1)
  · have hcN : nc a = bN B := by
      rcases Nat.lt_or_ge (nc a) (bN B) with q | q
      · exact absurd ⟨nc a, q, rfl⟩ hc
      · omega
    obtain ⟨-, hL2⟩ := hl'.cls hO hM3 hd ha hcN
    refine sp_close hz hd hdb a256 hma (fun q => ?_) (fun t ht hm => by have := lgb t ht hm; omega) (fun s' hs' => ?_)
    · have := h1 (d - 2) (by omega)
      exact ⟨this.1, by omega⟩
    · rintro _ rfl
      exact next _ _ _ _ _ _ hs' hL2
theorem sp_longestFrom (hO : OKb B) (hB : CB sB B) (hV : sV 0 0 = nI M) (hM3 : M ≤ 3) (ho : own < 256) {K : Int32 → St → Prop} (h : ∀ A s', AL B M own A → s' 0 = sV 0 → K A s') : wp_X6_longestFrom sV sB (nI own) K := by
  unfold wp_X6_longestFrom
  rintro _ rfl _ rfl
  have hz : REP (us (uf sV 1 256 0) 5 0) (sV 0) 0 (fun _ => 0) (fun _ => 0) (fun _ => 0) (fun _ => 0) := by
    refine ⟨by rw [us_n (by decide), uf_n (by decide)], by rw [us_s]; rfl, fun j hj => absurd hj (by omega), fun t ht => ?_, fun t ht hm => absurd rfl hm⟩
    rw [us_n (by decide), uf_s]
    exact if_pos ht
  refine sp_open hz (by omega) ho rfl (fun s' hs' => ?_)
  refine sp_long20 hO hB hM3 (n0 := 0) hV h rfl hs' ?_
  refine ⟨fun j hj => ?_, fun i j hi hj _ => by omega, fun t ht => ?_, fun j hj => ?_, fun j hj => absurd hj (by omega), ⟨ho, by rw [up_s]; omega, fun _ => by rw [up_s]⟩, ?_⟩
  · have : j = 0 := by omega
    subst this
    rw [up_s, up_s]; exact ⟨ho, rfl⟩
  · by_cases e : t = own
    · subst e
      rw [up_s, up_s]
      exact Or.inr (Or.inl ⟨rfl, Nat.zero_le _, by omega, 0, by omega, by rw [up_s]⟩)
    · rw [up_n e]
      exact Or.inl ⟨rfl, rfl⟩
  · have : j = 0 := by omega
    subst this
    rw [up_s, up_s]
    exact ⟨fun i g hi => absurd hi (Nat.not_lt_zero _), Or.inl rfl⟩
  · have := sumc_le (f := fun _ => 0) (k := 0) 256 (fun _ _ => Nat.le_refl _)
    omega
end LFROM
section LONGO
variable {B : BK} {sX sT sB sD sR sK sM sJ sV : St} {sW : Int64} {sS : St} {sL : Int64} {M n6 : Nat}
theorem sp_long46 (hO : OKb B) (hM : MB sS B) (h9 : sS 9 0 = nI M) (hM3 : M ≤ 3) (h6 : n6 = 256) (hL : LGI B M n6 (sS 33)) {E : St → Prop} (h : ∀ u, LGI B M n6 (u 33) → (∀ q, q ≠ 33 → u q = sS q) → (∀ s, okS B M s → u 33 s < 0 → stk B M (u 33) s) → E u) : Lp (F_X10_longest_46 sL E) ((1 : Int32), sS) := by
  refine lp_ind (fun q : Int32 × St => ∃ b u, q = (bi b, u) ∧ LGI B M n6 (u 33) ∧ (∀ q, q ≠ 33 → u q = sS q) ∧ (b = false → ∀ s, okS B M s → u 33 s < 0 → stk B M (u 33) s)) (fun q : Int32 × St => if q.1 = 0 then 0 else NG n6 (q.2 33) + 1) ?_ _ ?_
  rotate_left
  · refine ⟨true, sS, ?_, ?_, ?_, ?_⟩
    · rfl
    · exact hL
    · intro q hq
      rfl
    · intro e
      exact absurd e (by decide)
  rintro _ R ⟨b, u, rfl, hu, hF, hb⟩ hR
  unfold F_X10_longest_46
  dsimp only
  cases b with
  | false => exact ⟨fun _ => h u hu hF (hb rfl), fun z => absurd rfl z⟩
  | true =>
    refine ⟨fun z => absurd z (by decide), fun _ => ?_⟩
    refine sp_long57 hO (fr33 hF hM) (by rw [hF 9 (by decide)]; exact h9) hM3 h6 hu (fun u' a1 a2 a3 => ?_) (fun u' a1 a2 a3 => ?_)
    · refine hR (1, u') ⟨true, u', rfl, a1, fun q hq => (a2 q hq).trans (hF q hq), fun e => absurd e (by decide)⟩ ?_
      dsimp only
      rw [if_neg (by decide), if_neg (by decide)]
      exact Nat.succ_lt_succ a3
    · refine hR (0, u') ⟨false, u', rfl, a1, fun q hq => (a2 q hq).trans (hF q hq), fun _ => a3⟩ ?_
      dsimp only
      rw [if_pos rfl, if_neg (by decide)]
      exact Nat.succ_pos _
theorem op_longest (hO : OKb B) (hB : CB sB B) (hM : MB sS B) (hV : sV 0 0 = nI M) (h9 : sS 9 0 = nI M) (hM3 : M ≤ 3) {p q r w : Int32} {K : Int32 → St → Int32 → St → Prop} (h : ∀ a sV' sS', sV' 0 = sV 0 → (∀ q, q ≠ 33 → sS' q = sS q) → K a sV' a sS') : wp_X9_longest sX sT sB sD sR sK sM sJ sV sW p q r w (fun a u => wp_X10_longest sS sL p q r w (fun a' u' => K a u a' u')) := by
  unfold wp_X9_longest
  have bad : (∀ s, ¬ SOs B M p q r w s) → wp_X10_longest sS sL p q r w (fun a' u' => K (-1) sV a' u') := by
    intro hn
    unfold wp_X10_longest
    exact sp_stateOfM hO hM h9 hM3 (fun s hs => absurd hs (hn s)) (fun _ => ⟨fun z => absurd z (by decide), fun _ => h _ _ _ rfl (fun _ _ => rfl)⟩)
  refine sp_isActC (fun ha => ⟨fun e => absurd e (by decide), fun _ => ?_⟩) (fun ha => ⟨fun _ => bad (fun s ⟨a, x, y, z, g1, _, _, _, g, _⟩ => ha ⟨a, g1, g⟩), fun e => absurd rfl e⟩)
  obtain ⟨a, ha, rfl⟩ := ha
  refine sp_stateOfC hO hB hV hM3 ha (fun s hs => ⟨fun _ => ?_, fun z => absurd (nI_pos' (by have := hs.lt; omega)) z⟩) (fun hn => ⟨fun z => absurd z (by decide), fun _ => bad hn⟩)
  have hs256 := hs.lt
  refine sp_longestFrom hO hB hV hM3 hs256 (fun A s' hA e0 => ?_)
  unfold wp_X10_longest
  refine sp_stateOfM hO hM h9 hM3 (fun s2 hs2 => ?_) (fun hn => absurd hs (hn s))
  have := hs.uni hs2
  subst this
  refine ⟨fun _ => ?_, fun z => absurd (nI_pos' (by omega)) z⟩
  refine sp_long21 (fun u1 f1 f2 => ?_)
  obtain ⟨n6, h6⟩ : ∃ n6 : Nat, n6 = 256 := ⟨256, rfl⟩
  refine sp_long46 (n6 := n6) hO (fr33 f2 hM) (by rw [f2 9 (by decide)]; exact h9) hM3 h6 (fun t ht => Or.inl (f1 t ht)) (fun u hu hF hst => ?_)
  have io : vp_in (nI s) 256 := vp_in_nI hs256 (by decide)
  have hF' : ∀ q, q ≠ 33 → u q = sS q := fun q hq => (hF q hq).trans (f2 q hq)
  have oc : (nI s).toNatClampNeg = s := nI_clamp (by omega)
  rw [oc]
  refine ⟨io, ?_⟩
  rcases hu.cs hs256 with ⟨g1, g2⟩ | ⟨v, g1, g2, g3, g4, g5⟩
  · have hend := fun k => stk_end hst k s hs.ok g1
    have : A = -4 := hA.uni (Or.inr ⟨hend, rfl⟩)
    rw [this]
    refine ⟨fun z => ?_, fun _ => h _ _ _ e0 hF'⟩
    rw [g2] at z; exact absurd z (by decide)
  · have : A = nI v := hA.uni (Or.inl ⟨v, g5, rfl⟩)
    rw [this]
    refine ⟨fun _ => ⟨io, ?_⟩, fun z => absurd g3 z⟩
    rw [g2]
    exact h _ _ _ e0 hF'
end LONGO
