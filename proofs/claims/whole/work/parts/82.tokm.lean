/-! ===== tokens: the model ===== -/
/-- the text in the model -/
def MTx (s : St) (n : Nat) (tx : Nat → Nat) : Prop := n ≤ 300 ∧ s 0 0 = nI n ∧ ∀ j, j < n → tx j < 256 ∧ s 1 j = nI (tx j)
theorem MTx.fr {s s' : St} {n : Nat} {tx : Nat → Nat} (h : MTx s n tx) (e0 : s' 0 = s 0) (e1 : s' 1 = s 1) : MTx s' n tx := by unfold MTx at *; rw [e0, e1]; exact h
def bja (n : Nat) (tx : Nat → Nat) (j : Nat) : Nat := if j < n then tx j else 0
/-- how the model calls a token, and what it is worth -/
def mkI (k : Nat) : Int32 := if k = 0 then 6 else if k = 1 then 0 else if k = 2 then 1 else if k = 3 then 2 else if k = 4 then 3 else if k = 5 then 4 else 5
def WR (k v : Nat) (w : Int32) : Prop := (k = 4 ∨ k = 5 → w = nI v) ∧ (k = 6 → w = 62) ∧ (k = 7 → w = 61) ∧ (k = 8 → w = 59)
def F12 (s s' : St) : Prop := ∀ q, q ≠ 12 → q ≠ 13 → q ≠ 14 → s' q = s q
section TOKM
variable {s : St} {sL : Int64} {n : Nat} {tx : Nat → Nat}
theorem bja_lt (hc : MTx s n tx) (j : Nat) : bja n tx j < 256 := by
  unfold bja
  split
  · exact (hc.2.2 j (by assumption)).1
  · decide
theorem sp_byteAt (hc : MTx s n tx) {j : Nat} (hj : j < 2 ^ 31) {K : Int32 → Prop} (h : K (nI (bja n tx j))) : wp_X10_byteAt s sL (nI j) K := by
  unfold wp_X10_byteAt
  obtain ⟨h300, h0, hb⟩ := hc
  rw [h0, nI_leI (by omega) hj]
  unfold bja at h
  refine ⟨fun c => ?_, fun c => ?_⟩
  · rw [if_neg (by omega)] at h; exact h
  · rw [if_pos (by omega)] at h
    rw [nI_clamp hj, (hb j (by omega)).2]
    exact ⟨vp_in_nI (by omega) (by decide), h⟩
theorem sp_inN {c a b : Nat} (hc : c < 2 ^ 31) {lo hi : Int64} (hlo : lo.toInt = a) (hhi : hi.toInt = b) {K : Int32 → Prop} (h1 : a ≤ c → c ≤ b → K 1) (h0 : ¬ (a ≤ c ∧ c ≤ b) → K 0) : wp_X10_in (nI c).toInt64 lo hi K := by
  have e : ((nI c).toInt64).toInt = c := by rw [i2l_toInt, nI_toInt hc]
  refine sp_in (fun z => h1 ?_ ?_) (fun z => h0 (fun w => z ?_))
  · omega
  · omega
  · omega
theorem sp_isWordM (hc : MTx s n tx) {st e a b c d : Nat} (h13 : s 13 0 = nI st) (hst : st < 1000) (he : e < 1000) (ha : a < 256) (hb : b < 256) (hcc : c < 256) (hd : d < 256) {K : Int32 → Prop} (h1 : bja n tx st = a → bja n tx (st + 1) = b → bja n tx (st + 2) = c → (d = 0 → e = st + 3) → (d ≠ 0 → bja n tx (st + 3) = d ∧ e = st + 4) → K 1) (h0 : ¬ (bja n tx st = a ∧ bja n tx (st + 1) = b ∧ bja n tx (st + 2) = c ∧ (d = 0 → e = st + 3) ∧ (d ≠ 0 → bja n tx (st + 3) = d ∧ e = st + 4)) → K 0) : wp_X10_isWord s sL (nI e) (nI a) (nI b) (nI c) (nI d) K := by
  unfold wp_X10_isWord
  have l0 := bja_lt hc st
  have l1 := bja_lt hc (st + 1)
  have l2 := bja_lt hc (st + 2)
  have l3 := bja_lt hc (st + 3)
  have no : ¬ (bja n tx st = a ∧ bja n tx (st + 1) = b ∧ bja n tx (st + 2) = c ∧ (d = 0 → e = st + 3) ∧ (d ≠ 0 → bja n tx (st + 3) = d ∧ e = st + 4)) → J_X10_isWord_45 s sL (nI e) (nI d) K := by
    intro z
    unfold J_X10_isWord_45 J_X10_isWord_46
    exact ⟨fun _ => h0 z, fun w => absurd rfl w⟩
  rw [h13, show nI st + (1 : Int32) = nI (st + 1) from nI_1 st, show nI st + (2 : Int32) = nI (st + 2) from nI_add st 2]
  refine sp_byteAt hc (by omega) ?_
  rw [nI_eq (by omega) (by omega)]
  refine ⟨fun c1 => sp_byteAt hc (by omega) ?_, fun c1 => no (fun z => c1 z.1)⟩
  rw [nI_eq (by omega) (by omega)]
  refine ⟨fun c2 => sp_byteAt hc (by omega) ?_, fun c2 => no (fun z => c2 z.2.1)⟩
  rw [nI_eq (by omega) (by omega)]
  refine ⟨fun c3 => ?_, fun c3 => no (fun z => c3 z.2.2.1)⟩
  unfold J_X10_isWord_46
  refine ⟨fun z => absurd z (by decide), fun _ => ?_⟩
  rw [h13, show nI st + (3 : Int32) = nI (st + 3) from nI_add st 3, show nI st + (4 : Int32) = nI (st + 4) from nI_add st 4, nI_z (by omega), nI_eq (a := e) (b := st + 3) (by omega) (by omega)]
  refine ⟨fun c4 => ⟨fun c5 => h1 c1 c2 c3 (fun _ => c5) (fun z => absurd c4 z), fun c5 => h0 (fun z => c5 (z.2.2.2.1 c4))⟩, fun c4 => sp_byteAt hc (by omega) ?_⟩
  rw [nI_eq (by omega) (by omega), nI_eq (a := e) (b := st + 4) (by omega) (by omega)]
  refine ⟨fun c5 => ⟨fun c6 => h1 c1 c2 c3 (fun z => absurd z c4) (fun _ => ⟨c5, c6⟩), fun c6 => h0 (fun z => c6 (z.2.2.2.2 c4).2)⟩, fun c5 => h0 (fun z => c5 (z.2.2.2.2 c4).1)⟩
theorem bja_in {j : Nat} (h : j < n) : bja n tx j = tx j := if_pos h
/-- the word is looked at -/
theorem sp_tok216 (hc : MTx s n tx) {st bh k : Nat} (h13 : s 13 0 = nI st) (h12 : s 12 0 = nI bh) (hst : st < n) (hbh : bh ≤ n) (hsb : st < bh) (hk : (k = 2 ∧ WAc tx st bh) ∨ (k = 3 ∧ WCa tx st bh) ∨ (k = 0 ∧ ¬ WAc tx st bh ∧ ¬ WCa tx st bh)) {K : Int32 → St → Prop} (h : K (mkI k) s) : J_X10_token_216 s sL K := by
  unfold J_X10_token_216
  have h300 := hc.1
  rw [h12]
  refine sp_isWordM hc (a := 97) (b := 99) (c := 116) (d := 0) h13 (by omega) (by omega) (by decide) (by decide) (by decide) (by decide) (fun a1 a2 a3 a4 a5 => ⟨fun z => absurd z (by decide), fun _ => ?_⟩) (fun a0 => ⟨fun _ => ?_, fun z => absurd rfl z⟩)
  · have e := a4 rfl
    rw [bja_in (by omega)] at a1 a2 a3
    rcases hk with ⟨rfl, -⟩ | ⟨rfl, -, q, -⟩ | ⟨rfl, q, -⟩
    · exact h
    · omega
    · exact absurd ⟨e, a1, a2, a3⟩ q
  · have na : ¬ WAc tx st bh := by
      rintro ⟨e, q1, q2, q3⟩
      exact a0 ⟨by rw [bja_in (by omega)]; exact q1, by rw [bja_in (by omega)]; exact q2, by rw [bja_in (by omega)]; exact q3, fun _ => e, fun z => absurd rfl z⟩
    refine sp_isWordM hc (a := 99) (b := 97) (c := 108) (d := 108) h13 (by omega) (by omega) (by decide) (by decide) (by decide) (by decide) (fun a1 a2 a3 a4 a5 => ⟨fun z => absurd z (by decide), fun _ => ?_⟩) (fun b0 => ⟨fun _ => ?_, fun z => absurd rfl z⟩)
    · obtain ⟨a6, e⟩ := a5 (by decide)
      rw [bja_in (by omega)] at a1 a2 a3 a6
      rcases hk with ⟨rfl, q⟩ | ⟨rfl, -⟩ | ⟨rfl, -, q⟩
      · exact absurd q na
      · exact h
      · exact absurd ⟨e, a1, a2, a3, a6⟩ q
    · have nc : ¬ WCa tx st bh := by
        rintro ⟨e, q1, q2, q3, q4⟩
        exact b0 ⟨by rw [bja_in (by omega)]; exact q1, by rw [bja_in (by omega)]; exact q2, by rw [bja_in (by omega)]; exact q3, fun z => absurd z (by decide), fun _ => ⟨by rw [bja_in (by omega)]; exact q4, e⟩⟩
      rcases hk with ⟨rfl, q⟩ | ⟨rfl, q⟩ | ⟨rfl, -⟩
      · exact absurd q na
      · exact absurd q nc
      · exact h
/-- letters are gone through -/
theorem sp_tok168 (hc : MTx s n tx) {st bh : Nat} (h12 : s 12 0 = nI (st + 1)) (hst : st < n) (hbh : bh ≤ n) (hsb : st < bh) (hl : lt' (tx st)) (hle : ∀ j, st < j → j < bh → lt' (tx j)) (hend : bh < n → ¬ lt' (tx bh)) {E : St → Prop} (h : ∀ s', s' 12 0 = nI bh → (∀ q, q ≠ 12 → s' q = s q) → E s') : Lp (F_X10_token_168 sL (nI (tx st)) E) s := by
  have h300 := hc.1
  obtain ⟨b1, -⟩ := hc.2.2 st hst
  refine lp_ind (fun q => ∃ j, st < j ∧ j ≤ bh ∧ q 12 0 = nI j ∧ ∀ z, z ≠ 12 → q z = s z) (fun q => n - (q 12 0).toNatClampNeg) ?_ _ ⟨st + 1, by omega, by omega, h12, fun _ _ => rfl⟩
  rintro q R ⟨j, hj, hjb, q12, hF⟩ hR
  have hc' : MTx q n tx := hc.fr (hF 0 (by decide)) (hF 1 (by decide))
  unfold F_X10_token_168
  have hbj := bja_lt hc j
  refine sp_inN (a := 97) (b := 122) (by omega) (by decide) (by decide) (fun _ _ => ⟨fun z => absurd z (by decide), fun _ => ?_⟩) (fun z => absurd hl z)
  rw [q12]
  refine sp_byteAt hc' (by omega) ?_
  refine sp_inN (a := 97) (b := 122) (by omega) (by decide) (by decide) (fun c1 c2 => ⟨fun z => absurd z (by decide), fun _ => ?_⟩) (fun c1 => ⟨fun _ => ?_, fun z => absurd rfl z⟩)
  · have hjn : j < n := by
      rcases Nat.lt_or_ge j n with z | z
      · exact z
      · unfold bja at c1; rw [if_neg (by omega)] at c1; omega
    rw [bja_in hjn] at c1 c2
    have hne : j ≠ bh := fun e => hend (by omega) (by rw [← e]; exact ⟨c1, c2⟩)
    rintro _ rfl
    rw [nI_1]
    refine hR _ ⟨j + 1, by omega, by omega, by rw [us_s], fun z hz => by rw [us_n hz]; exact hF z hz⟩ ?_
    rw [us_s, q12, nI_clamp (by omega), nI_clamp (by omega)]; omega
  · have e : j = bh := by
      rcases Nat.lt_or_ge j bh with z | z
      · have := hle j hj z
        rw [bja_in (by omega)] at c1
        exact absurd this c1
      · omega
    subst e
    exact h q q12 hF
set_option maxHeartbeats 1000000 in
theorem sp_token (hc : MTx s n tx) {p k v st bh : Nat} (h12 : s 12 0 = nI p) (hT : TK n tx p k v st bh) {K : Int32 → St → Prop} (h : ∀ s', s' 13 0 = nI st → (k ≠ 0 → s' 12 0 = nI bh) → WR k v (s' 14 0) → F12 s s' → K (mkI k) s') : wp_X10_token s sL K := by
  unfold wp_X10_token
  have h300 := hc.1
  obtain ⟨hps, hsb, hbn, hsp, hne, hk⟩ := hT
  refine lp_ind (fun q => ∃ j, p ≤ j ∧ j ≤ st ∧ q 12 0 = nI j ∧ ∀ z, z ≠ 12 → q z = s z) (fun q => st - (q 12 0).toNatClampNeg) ?_ _ ⟨p, by omega, hps, h12, fun _ _ => rfl⟩
  rintro q R ⟨j, hpj, hjs, q12, hF⟩ hR
  have hc' : MTx q n tx := hc.fr (hF 0 (by decide)) (hF 1 (by decide))
  unfold F_X10_token_0
  have hbj := bja_lt hc j
  rw [q12]
  refine sp_byteAt hc' (by omega) ?_
  rw [show (32 : Int32) = nI 32 from rfl, nI_eq (by omega) (by decide)]
  by_cases e : j < st
  · refine ⟨fun _ => ?_, fun z => absurd (by rw [bja_in (by omega)]; exact hsp j hpj e) z⟩
    rintro _ rfl
    rw [nI_1]
    refine hR _ ⟨j + 1, by omega, by omega, by rw [us_s], fun z hz => by rw [us_n hz]; exact hF z hz⟩ ?_
    rw [us_s, q12, nI_clamp (by omega), nI_clamp (by omega)]; omega
  · have e : j = st := by omega
    subst e
    refine ⟨fun z => ?_, fun _ => ?_⟩
    · exfalso
      unfold bja at z
      split at z
      · exact hne (by assumption) z
      · omega
    · rintro _ rfl
      have y12 : (us q 13 (nI j)) 12 0 = nI j := by rw [us_n (by decide)]; exact q12
      have yc : MTx (us q 13 (nI j)) n tx := hc'.fr (us_n (by decide)) (us_n (by decide))
      have yF : F12 s (us q 13 (nI j)) := fun z a1 a2 a3 => by rw [us_n a2]; exact hF z a1
      rw [q12, y12, yc.2.1, nI_ltI (by omega) (by omega)]
      rcases hk with ⟨e1, e2, e3⟩ | ⟨e1, e2, hk⟩
      · refine ⟨fun z => by omega, fun _ => ?_⟩
        have := h (us q 13 (nI j)) (by rw [us_s]) (fun _ => by rw [y12, e3, e1]) ⟨fun z => by omega, fun z => by omega, fun z => by omega, fun z => by omega⟩ yF
        rw [e2] at this
        exact this
      · refine ⟨fun _ => ⟨vp_in_nI (by omega) (by decide), ?_⟩, fun z => absurd e1 z⟩
        obtain ⟨b1, b2⟩ := yc.2.2 j e1
        rw [nI_clamp (by omega), b2, nI_1]
        rintro _ rfl _ rfl _ rfl
        obtain ⟨u, eu⟩ : ∃ u, u = us (us (us q 13 (nI j)) 12 (nI (j + 1))) 14 (nI (tx j)) := ⟨_, rfl⟩
        rw [← eu]
        have u12 : u 12 0 = nI (j + 1) := by rw [eu, us_n (by decide), us_s]
        have u13 : u 13 0 = nI j := by rw [eu, us_n (by decide), us_n (by decide), us_s]
        have u14 : u 14 0 = nI (tx j) := by rw [eu, us_s]
        have uF : F12 s u := fun z a1 a2 a3 => by rw [eu, us_n a3, us_n a1]; exact yF z a1 a2 a3
        have uc : MTx u n tx := hc.fr (uF 0 (by decide) (by decide) (by decide)) (uF 1 (by decide) (by decide) (by decide))
        have c62 : nI (tx j) = (62 : Int32) ↔ tx j = 62 := nI_eq (b := 62) (by omega) (by decide)
        have c61 : nI (tx j) = (61 : Int32) ↔ tx j = 61 := nI_eq (b := 61) (by omega) (by decide)
        have c59 : nI (tx j) = (59 : Int32) ↔ tx j = 59 := nI_eq (b := 59) (by omega) (by decide)
        rw [c62, c61, c59]
        clear eu
        rcases hk with ⟨f1, f2, f3, f4⟩ | ⟨f1, f3, f4⟩ | ⟨f1, f3, f4⟩ | ⟨f1, f3, f4⟩ | ⟨f1, f2, f3, f4, f5⟩ | ⟨f1, f2, f3, f4⟩ | ⟨f1, f2, f3, f4⟩ | ⟨f1, f2, f3, f4, f5, f6, f7⟩
        · refine sp_inN (a := 65) (b := 68) (by omega) (by decide) (by decide) (fun _ _ => ⟨fun z => absurd z (by decide), fun _ => ?_⟩) (fun z => absurd (by omega) z)
          rintro _ rfl
          have := h (us u 14 (nI (tx j) - 65)) (by rw [us_n (by decide)]; exact u13) (fun _ => by rw [us_n (by decide), u12, f4]) ⟨fun _ => by rw [us_s, f3]; exact (pk_sub (a := 65 + v) (b := 65) (by omega)).trans (by rw [show 65 + v - 65 = v by omega]), fun z => by omega, fun z => by omega, fun z => by omega⟩ (fun z a1 a2 a3 => by rw [us_n a3]; exact uF z a1 a2 a3)
          rw [f1] at this
          exact this
        · refine sp_inN (a := 65) (b := 68) (by omega) (by decide) (by decide) (fun _ _ => by omega) (fun _ => ⟨fun _ => ⟨fun _ => ?_, fun z => absurd f3 z⟩, fun z => absurd rfl z⟩)
          have := h u u13 (fun _ => by rw [u12, f4]) ⟨fun z => by omega, fun _ => by rw [u14, f3]; rfl, fun z => by omega, fun z => by omega⟩ uF
          rw [f1] at this
          exact this
        · refine sp_inN (a := 65) (b := 68) (by omega) (by decide) (by decide) (fun _ _ => by omega) (fun _ => ⟨fun _ => ⟨fun z => by omega, fun _ => ⟨fun _ => ?_, fun z => absurd f3 z⟩⟩, fun z => absurd rfl z⟩)
          have := h u u13 (fun _ => by rw [u12, f4]) ⟨fun z => by omega, fun z => by omega, fun _ => by rw [u14, f3]; rfl, fun z => by omega⟩ uF
          rw [f1] at this
          exact this
        · refine sp_inN (a := 65) (b := 68) (by omega) (by decide) (by decide) (fun _ _ => by omega) (fun _ => ⟨fun _ => ⟨fun z => by omega, fun _ => ⟨fun z => by omega, fun _ => ⟨fun _ => ?_, fun z => absurd f3 z⟩⟩⟩, fun z => absurd rfl z⟩)
          have := h u u13 (fun _ => by rw [u12, f4]) ⟨fun z => by omega, fun z => by omega, fun z => by omega, fun _ => by rw [u14, f3]; rfl⟩ uF
          rw [f1] at this
          exact this
        · refine sp_inN (a := 65) (b := 68) (by omega) (by decide) (by decide) (fun _ _ => by omega) (fun _ => ⟨fun _ => ⟨fun z => by omega, fun _ => ⟨fun z => by omega, fun _ => ⟨fun z => by omega, fun _ => ?_⟩⟩⟩, fun z => absurd rfl z⟩)
          refine sp_inN (a := 48) (b := 57) (by omega) (by decide) (by decide) (fun _ _ => ⟨fun z => absurd z (by decide), fun _ => ?_⟩) (fun z => absurd (by omega) z)
          rintro _ rfl
          have w12 : (us u 14 (nI (tx j) - 48)) 12 0 = nI (j + 1) := by rw [us_n (by decide)]; exact u12
          have wc : MTx (us u 14 (nI (tx j) - 48)) n tx := uc.fr (us_n (by decide)) (us_n (by decide))
          rw [w12]
          have hb2 := bja_lt hc (j + 1)
          refine sp_byteAt wc (by omega) (sp_inN (a := 48) (b := 57) (by omega) (by decide) (by decide) (fun c1 c2 => ?_) (fun _ => ⟨fun _ => ?_, fun z => absurd rfl z⟩))
          · exfalso
            rw [f4] at f5
            unfold bja at c1 c2
            split at c1
            · rename_i hlt
              rw [if_pos hlt] at c2
              exact f5 hlt ⟨c1, c2⟩
            · omega
          · have := h (us u 14 (nI (tx j) - 48)) (by rw [us_n (by decide)]; exact u13) (fun _ => by rw [w12, f4]) ⟨fun _ => by rw [us_s, f3]; exact (pk_sub (a := 48 + v) (b := 48) (by omega)).trans (by rw [show 48 + v - 48 = v by omega]), fun z => by omega, fun z => by omega, fun z => by omega⟩ (fun z a1 a2 a3 => by rw [us_n a3]; exact uF z a1 a2 a3)
            rw [f1] at this
            exact this
        · have f1' : 97 ≤ tx j ∧ tx j ≤ 122 := f1
          refine sp_inN (a := 65) (b := 68) (by omega) (by decide) (by decide) (fun _ _ => by omega) (fun _ => ⟨fun _ => ⟨fun z => by omega, fun _ => ⟨fun z => by omega, fun _ => ⟨fun z => by omega, fun _ => ?_⟩⟩⟩, fun z => absurd rfl z⟩)
          refine sp_inN (a := 48) (b := 57) (by omega) (by decide) (by decide) (fun _ _ => by omega) (fun _ => ⟨fun _ => ?_, fun z => absurd rfl z⟩)
          refine sp_tok168 uc u12 e1 hbn e2 f1 f2 f3 (fun w w12 wF => ?_)
          refine sp_tok216 (uc.fr (wF 0 (by decide)) (wF 1 (by decide))) (by rw [wF 13 (by decide)]; exact u13) w12 e1 hbn e2 f4 ?_
          refine h w (by rw [wF 13 (by decide)]; exact u13) (fun _ => w12) ?_ (fun z a1 a2 a3 => by rw [wF z a1]; exact uF z a1 a2 a3)
          rcases f4 with ⟨rfl, -⟩ | ⟨rfl, -⟩ | ⟨rfl, -⟩ <;> exact ⟨fun z => by omega, fun z => by omega, fun z => by omega, fun z => by omega⟩
        · have f2' : 48 ≤ tx j ∧ tx j ≤ 57 := f2
          refine sp_inN (a := 65) (b := 68) (by omega) (by decide) (by decide) (fun _ _ => by omega) (fun _ => ⟨fun _ => ⟨fun z => by omega, fun _ => ⟨fun z => by omega, fun _ => ⟨fun z => by omega, fun _ => ?_⟩⟩⟩, fun z => absurd rfl z⟩)
          refine sp_inN (a := 48) (b := 57) (by omega) (by decide) (by decide) (fun _ _ => ⟨fun z => absurd z (by decide), fun _ => ?_⟩) (fun z => absurd (by omega) z)
          rintro _ rfl
          have w12 : (us u 14 (nI (tx j) - 48)) 12 0 = nI (j + 1) := by rw [us_n (by decide)]; exact u12
          have wc : MTx (us u 14 (nI (tx j) - 48)) n tx := uc.fr (us_n (by decide)) (us_n (by decide))
          rw [w12]
          have hb2 := bja_lt hc (j + 1)
          refine sp_byteAt wc (by omega) (sp_inN (a := 48) (b := 57) (by omega) (by decide) (by decide) (fun _ _ => ⟨fun z => absurd z (by decide), fun _ => ?_⟩) (fun z => absurd (by rw [bja_in f3]; exact f4) z))
          have := h (us u 14 (nI (tx j) - 48)) (by rw [us_n (by decide)]; exact u13) (fun z => absurd f1 z) ⟨fun z => by omega, fun z => by omega, fun z => by omega, fun z => by omega⟩ (fun z a1 a2 a3 => by rw [us_n a3]; exact uF z a1 a2 a3)
          rw [f1] at this
          exact this
        · have f2' : ¬ (97 ≤ tx j ∧ tx j ≤ 122) := f2
          have f3' : ¬ (48 ≤ tx j ∧ tx j ≤ 57) := f3
          refine sp_inN (a := 65) (b := 68) (by omega) (by decide) (by decide) (fun _ _ => by omega) (fun _ => ⟨fun _ => ⟨fun z => by omega, fun _ => ⟨fun z => by omega, fun _ => ⟨fun z => by omega, fun _ => ?_⟩⟩⟩, fun z => absurd rfl z⟩)
          refine sp_inN (a := 48) (b := 57) (by omega) (by decide) (by decide) (fun _ _ => by omega) (fun _ => ⟨fun _ => ?_, fun z => absurd rfl z⟩)
          refine lp_ind (fun q => q = u) (fun _ => 0) ?_ _ rfl
          rintro q2 R2 eq2 _
          rw [eq2]
          unfold F_X10_token_168
          refine sp_inN (a := 97) (b := 122) (by omega) (by decide) (by decide) (fun _ _ => by omega) (fun _ => ⟨fun _ => ?_, fun z => absurd rfl z⟩)
          refine sp_tok216 (bh := j + 1) (k := 0) uc u13 u12 e1 (by omega) (by omega) (Or.inr (Or.inr ⟨rfl, fun z => by have := z.2.1; omega, fun z => by have := z.2.1; omega⟩)) ?_
          have := h u u13 (fun z => absurd f1 z) ⟨fun z => by omega, fun z => by omega, fun z => by omega, fun z => by omega⟩ uF
          rw [f1] at this
          exact this
end TOKM
