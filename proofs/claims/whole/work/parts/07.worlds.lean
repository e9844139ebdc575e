theorem mc {c0 w : Cond} (h : w ∈ wsL_law) : w ∈ c0 :: wsL_law := List.mem_cons_of_mem _ h
theorem mem3 {α : Type} {L : List α} {a b c : α} (h1 : a ∈ L) (h2 : b ∈ L) (h3 : c ∈ L) : ∀ w ∈ [a, b, c], w ∈ L := by
  intro w hw
  simp only [List.mem_cons, List.not_mem_nil, or_false] at hw
  rcases hw with rfl | rfl | rfl <;> assumption
theorem mem4 {α : Type} {L : List α} {a b c d : α} (h1 : a ∈ L) (h2 : b ∈ L) (h3 : c ∈ L) (h4 : d ∈ L) : ∀ w ∈ [a, b, c, d], w ∈ L := by
  intro w hw
  simp only [List.mem_cons, List.not_mem_nil, or_false] at hw
  rcases hw with rfl | rfl | rfl | rfl <;> assumption
theorem vpi {i : Int32} {n : Nat} (h : (!(decide (i < 0)) && decide (i.toNatClampNeg < n)) = true) : vp_in i n := by
  simp only [Bool.and_eq_true, Bool.not_eq_true', decide_eq_false_iff_not, decide_eq_true_eq] at h
  intro q
  rcases q with q | q
  · exact h.1 q
  · omega
theorem fi_X1 {c0 : Cond} : ∀ w ∈ u_ws RX1 TX1 5, w ∈ c0 :: wsL_law := fun w h => List.mem_cons_of_mem _ (fw_X1 w h)
theorem fi_X2 {c0 : Cond} : ∀ w ∈ u_ws RX2 TX2 12, w ∈ c0 :: wsL_law := fun w h => List.mem_cons_of_mem _ (fw_X2 w h)
theorem fi_X4 {c0 : Cond} : ∀ w ∈ u_ws RX4 TX4 8, w ∈ c0 :: wsL_law := fun w h => List.mem_cons_of_mem _ (fw_X4 w h)
theorem fi_X5 {c0 : Cond} : ∀ w ∈ u_ws RX5 TX5 2, w ∈ c0 :: wsL_law := fun w h => List.mem_cons_of_mem _ (fw_X5 w h)
theorem fi_X6 {c0 : Cond} : ∀ w ∈ u_ws RX6 TX6 6, w ∈ c0 :: wsL_law := fun w h => List.mem_cons_of_mem _ (fw_X6 w h)
theorem fi_X7 {c0 : Cond} : ∀ w ∈ u_ws RX7 TX7 8, w ∈ c0 :: wsL_law := fun w h => List.mem_cons_of_mem _ (fw_X7 w h)
theorem fi_X8 {c0 : Cond} : ∀ w ∈ u_ws RX8 TX8 1, w ∈ c0 :: wsL_law := fun w h => List.mem_cons_of_mem _ (fw_X8 w h)
theorem fi_X9 {c0 : Cond} : ∀ w ∈ u_ws RX9 TX9 9, w ∈ c0 :: wsL_law := fun w h => List.mem_cons_of_mem _ (fw_X9 w h)
theorem fi_X10 {c0 : Cond} : ∀ w ∈ u_ws RX10 TX10 34, w ∈ c0 :: wsL_law := fun w h => List.mem_cons_of_mem _ (fw_X10 w h)
def wdB (k : ClassId × ClassId) (a : Nat → Nat) (s : St) : va_W := [(a 0, .inr (0, [.ref (a 1), .ref (a 2), .ref (a 3), .ref (a 4), .int (s 4 0)])), (a 1, .inl (k.1, 4, .inl (s 0))), (a 2, .inl (k.1, 8, .inl (s 1))), (a 3, .inl (k.1, 8, .inl (s 2))), (a 4, .inl (k.1, 8, .inl (s 3)))]
def wdK (k : ClassId × ClassId) (a : Nat → Nat) (s : St) : va_W := [(a 0, .inr (1, [.ref (a 1), .ref (a 2), .ref (a 3), .ref (a 4), .ref (a 5), .ref (a 6), .ref (a 7), .int (s 7 0), .int (s 8 0), .int (s 9 0), .int (s 10 0), .int (s 11 0)])), (a 1, .inl (k.1, 1000, .inl (s 0))), (a 2, .inl (k.1, 1000, .inl (s 1))), (a 3, .inl (k.1, 1000, .inl (s 2))), (a 4, .inl (k.1, 2048, .inl (s 3))), (a 5, .inl (k.1, 1000, .inl (s 4))), (a 6, .inl (k.1, 512, .inl (s 5))), (a 7, .inl (k.1, 8, .inl (s 6)))]
def wdM (k : ClassId × ClassId) (a : Nat → Nat) (aJ : Nat → Nat) (s : St) : va_W := [(a 0, .inr (2, [.ref (aJ 0), .ref (a 1), .int (s 2 0), .int (s 3 0), .ref (a 2), .int (s 5 0), .int (s 6 0), .int (s 7 0)])), (a 1, .inl (k.1, 256, .inl (s 1))), (a 2, .inl (k.1, 72, .inl (s 4)))]
def wdR (k : ClassId × ClassId) (a : Nat → Nat) (s : St) : va_W := [(a 0, .inr (3, [.ref (a 1), .int (s 1 0)])), (a 1, .inl (k.1, 12, .inl (s 0)))]
def wdV (k : ClassId × ClassId) (a : Nat → Nat) (s : St) : va_W := [(a 0, .inr (4, [.int (s 0 0), .ref (a 1), .ref (a 2), .ref (a 3), .ref (a 4), .int (s 5 0)])), (a 1, .inl (k.1, 256, .inl (s 1))), (a 2, .inl (k.1, 256, .inl (s 2))), (a 3, .inl (k.1, 256, .inl (s 3))), (a 4, .inl (k.1, 256, .inl (s 4)))]
def wdT (k : ClassId × ClassId) (a : Nat → Nat) (s : St) : va_W := [(a 0, .inr (5, [.ref (a 1), .int (s 1 0), .int (s 2 0), .int (s 3 0), .int (s 4 0), .int (s 5 0), .int (s 6 0), .int (s 7 0)])), (a 1, .inl (k.1, 300, .inl (s 0)))]
def wdW (k : ClassId × ClassId) (a : Nat → Nat) (w : Int64) : va_W := [(a 0, .inr (6, [.long w]))]
def wdX (k : ClassId × ClassId) (a : Nat → Nat) (aT : Nat → Nat) (aB : Nat → Nat) (aD : Nat → Nat) (aR : Nat → Nat) (aK : Nat → Nat) (aM : Nat → Nat) (aV : Nat → Nat) (aW : Nat → Nat) (s : St) : va_W := [(a 0, .inr (7, [.ref (aT 0), .ref (aB 0), .ref (aD 0), .ref (aR 0), .ref (aK 0), .ref (aM 0), .ref (aV 0), .ref (aW 0), .int (s 8 0)]))]
def wdS (k : ClassId × ClassId) (a : Nat → Nat) (s : St) (w : Int64) : va_W := [(a 0, .inr (8, [.int (s 0 0), .ref (a 1), .ref (a 2), .int (s 3 0), .ref (a 3), .ref (a 4), .ref (a 5), .int (s 7 0), .ref (a 6), .int (s 9 0), .long w, .ref (a 7), .int (s 12 0), .int (s 13 0), .int (s 14 0), .ref (a 8), .ref (a 9), .int (s 17 0), .ref (a 10), .ref (a 11), .ref (a 12), .int (s 21 0), .int (s 22 0), .ref (a 13), .ref (a 14), .ref (a 15), .int (s 26 0), .ref (a 16), .ref (a 17), .ref (a 18), .ref (a 19), .int (s 31 0), .ref (a 20), .ref (a 21)])), (a 1, .inl (k.1, 300, .inl (s 1))), (a 2, .inl (k.1, 4, .inl (s 2))), (a 3, .inl (k.1, 8, .inl (s 4))), (a 4, .inl (k.1, 8, .inl (s 5))), (a 5, .inl (k.1, 72, .inl (s 6))), (a 6, .inl (k.1, 12, .inl (s 8))), (a 7, .inl (k.1, 10, .inl (s 11))), (a 8, .inl (k.1, 4, .inl (s 15))), (a 9, .inl (k.2, 4, .inl (s 16))), (a 10, .inl (k.1, 8, .inl (s 18))), (a 11, .inl (k.1, 8, .inl (s 19))), (a 12, .inl (k.1, 72, .inl (s 20))), (a 13, .inl (k.1, 1000, .inl (s 23))), (a 14, .inl (k.1, 1000, .inl (s 24))), (a 15, .inl (k.1, 1000, .inl (s 25))), (a 16, .inl (k.1, 314928, .inl (s 27))), (a 17, .inl (k.1, 314928, .inl (s 28))), (a 18, .inl (k.1, 1000, .inl (s 29))), (a 19, .inl (k.1, 1000, .inl (s 30))), (a 20, .inl (k.1, 3, .inl (s 32))), (a 21, .inl (k.1, 256, .inl (s 33)))]
