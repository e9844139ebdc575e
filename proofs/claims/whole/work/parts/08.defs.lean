def wp_X0_isNumber (p1 : Int32) (K : Int32 → Prop) : Prop :=
  ((p1 < 0 → (K (0 : Int32))) ∧ (¬ p1 < 0 → ((((19683 : Int32) ≤ p1 → (K (0 : Int32))) ∧ (¬ (19683 : Int32) ≤ p1 → (K (1 : Int32)))))))
def wp_X0_at (p1 : Int32) (p2 : Int32) (p3 : Int32) (K : Int32 → Prop) : Prop :=
  K ((p1 >>> (((2 : Int32) * (((3 : Int32) * p2) + p3)) &&& 31)) &&& (3 : Int32))
def wp_X0_with (p1 : Int32) (p2 : Int32) (p3 : Int32) (p4 : Int32) (K : Int32 → Prop) : Prop :=
  ∀ y1 : Int32, y1 = ((2 : Int32) * (((3 : Int32) * p2) + p3)) → (K ((p1 &&& (((3 : Int32) <<< (y1 &&& 31)) ^^^ (-1 : Int32))) ||| (p4 <<< (y1 &&& 31))))
def wp_X0_row (p1 : Int32) (p2 : Int32) (K : Int32 → Prop) : Prop :=
  K ((p1 >>> (((6 : Int32) * p2) &&& 31)) &&& (63 : Int32))
def F_X0_toNumber_5 (x0 : Int32) (K : Int32 → Prop) (R5 : Int32 × Int32 → Prop) (q1 : Int32 × Int32) : Prop :=
  ((q1.2 < 0 → (K q1.1)) ∧ (¬ q1.2 < 0 → (∀ y3 : Int32, y3 = (((3 : Int32) * q1.1) + ((x0 >>> (((2 : Int32) * q1.2) &&& 31)) &&& (3 : Int32))) → (∀ y4 : Int32, y4 = q1.2 + (-1 : Int32) → (R5 (y3, y4))))))
def wp_X0_toNumber (p1 : Int32) (K : Int32 → Prop) : Prop :=
  Lp (F_X0_toNumber_5 p1 K) ((0 : Int32), (8 : Int32))
def F_X0_fromNumber_6 (K : Int32 → Prop) (R6 : Int32 × Int32 × Int32 → Prop) (q1 : Int32 × Int32 × Int32) : Prop :=
  (((9 : Int32) ≤ q1.2.2 → (K q1.1)) ∧ (¬ (9 : Int32) ≤ q1.2.2 → (∀ y3 : Int32, y3 = (q1.1 ||| ((q1.2.1 - q1.2.1 / (3 : Int32) * (3 : Int32)) <<< (((2 : Int32) * q1.2.2) &&& 31))) → (∀ y4 : Int32, y4 = (q1.2.1 / (3 : Int32)) → (∀ y5 : Int32, y5 = q1.2.2 + (1 : Int32) → (R6 (y3, y4, y5)))))))
def wp_X0_fromNumber (p1 : Int32) (K : Int32 → Prop) : Prop :=
  Lp (F_X0_fromNumber_6 K) ((0 : Int32), p1, (0 : Int32))
def F_X0_joinRow_4 (x0 : Int32) (x1 : Int32) (E70 : Int32 → Prop) (R4 : Int32 × Int32 → Prop) (q1 : Int32 × Int32) : Prop :=
  (((3 : Int32) ≤ q1.2 → (E70 q1.1)) ∧ (¬ (3 : Int32) ≤ q1.2 → (∀ y3 : Int32, y3 = ((x0 >>> (((2 : Int32) * q1.2) &&& 31)) &&& (3 : Int32)) → (∀ y4 : Int32, y4 = ((x1 >>> (((6 : Int32) * q1.2) &&& 31)) &&& (63 : Int32)) → (((y3 = (1 : Int32) → (∀ y10 : Int32, y10 = (q1.1 ||| y4) → (∀ y11 : Int32, y11 = q1.2 + (1 : Int32) → (R4 (y10, y11))))) ∧ (¬ y3 = (1 : Int32) → (((y3 = (2 : Int32) → (∀ y8 : Int32, y8 = (q1.1 ||| (((y4 ||| (y4 >>> ((1 : Int32) &&& 31))) &&& (21 : Int32)) <<< ((1 : Int32) &&& 31))) → (∀ y9 : Int32, y9 = q1.2 + (1 : Int32) → (R4 (y8, y9))))) ∧ (¬ y3 = (2 : Int32) → (∀ y7 : Int32, y7 = q1.2 + (1 : Int32) → (R4 (q1.1, y7)))))))))))))
def wp_X0_joinRow (p1 : Int32) (p2 : Int32) (K : Int32 → Prop) : Prop :=
  Lp (F_X0_joinRow_4 p1 p2 (fun q12 => K (q12 &&& (((q12 >>> ((1 : Int32) &&& 31)) &&& (21 : Int32)) ^^^ (-1 : Int32))))) ((0 : Int32), (0 : Int32))
def F_X0_join_4 (x0 : Int32) (x1 : Int32) (K : Int32 → Prop) (R4 : Int32 × Int32 → Prop) (q1 : Int32 × Int32) : Prop :=
  (((3 : Int32) ≤ q1.2 → (K q1.1)) ∧ (¬ (3 : Int32) ≤ q1.2 → (wp_X0_row x0 q1.2 (fun r3 => wp_X0_joinRow r3 x1 (fun r4 => ∀ y5 : Int32, y5 = (q1.1 ||| (r4 <<< (((6 : Int32) * q1.2) &&& 31))) → (∀ y6 : Int32, y6 = q1.2 + (1 : Int32) → (R4 (y5, y6))))))))
def wp_X0_join (p1 : Int32) (p2 : Int32) (K : Int32 → Prop) : Prop :=
  Lp (F_X0_join_4 p1 p2 K) ((0 : Int32), (0 : Int32))
def wp_X0_hasLessToItself (p1 : Int32) (K : Int32 → Prop) : Prop :=
  (((p1 &&& (131586 : Int32)) = 0 → (K (0 : Int32))) ∧ (¬ (p1 &&& (131586 : Int32)) = 0 → (K (1 : Int32))))
def F_X0_howMany_4 (x0 : Int32) (x1 : Int32) (K : Int32 → Prop) (R4 : Int32 × Int32 → Prop) (q1 : Int32 × Int32) : Prop :=
  (((9 : Int32) ≤ q1.2 → (K q1.1)) ∧ (¬ (9 : Int32) ≤ q1.2 → (((((x0 >>> (((2 : Int32) * q1.2) &&& 31)) &&& (3 : Int32)) < x1 → (∀ y4 : Int32, y4 = q1.2 + (1 : Int32) → (R4 (q1.1, y4)))) ∧ (¬ ((x0 >>> (((2 : Int32) * q1.2) &&& 31)) &&& (3 : Int32)) < x1 → (∀ y5 : Int32, y5 = q1.1 + (1 : Int32) → (∀ y6 : Int32, y6 = q1.2 + (1 : Int32) → (R4 (y5, y6)))))))))
def wp_X0_howMany (p1 : Int32) (p2 : Int32) (K : Int32 → Prop) : Prop :=
  Lp (F_X0_howMany_4 p1 p2 K) ((0 : Int32), (0 : Int32))
def F_X0_howManyToThemselves_4 (x0 : Int32) (K : Int32 → Prop) (R4 : Int32 × Int32 → Prop) (q1 : Int32 × Int32) : Prop :=
  (((3 : Int32) ≤ q1.2 → (K q1.1)) ∧ (¬ (3 : Int32) ≤ q1.2 → (wp_X0_at x0 q1.2 q1.2 (fun r3 => ((r3 = 0 → (∀ y5 : Int32, y5 = q1.2 + (1 : Int32) → (R4 (q1.1, y5)))) ∧ (¬ r3 = 0 → (∀ y6 : Int32, y6 = q1.1 + (1 : Int32) → (∀ y7 : Int32, y7 = q1.2 + (1 : Int32) → (R4 (y6, y7))))))))))
def wp_X0_howManyToThemselves (p1 : Int32) (K : Int32 → Prop) : Prop :=
  Lp (F_X0_howManyToThemselves_4 p1 K) ((0 : Int32), (0 : Int32))
def F_X0_leadsTo_2 (x0 : Int32) (x1 : Int32) (x2 : Int32) (K : Int32 → Prop) (R2 : Int32 → Prop) (q1 : Int32) : Prop :=
  (((3 : Int32) ≤ q1 → (K (0 : Int32))) ∧ (¬ (3 : Int32) ≤ q1 → (wp_X0_at x0 x1 q1 (fun r3 => ((r3 = 0 → (∀ y5 : Int32, y5 = q1 + (1 : Int32) → (R2 y5))) ∧ (¬ r3 = 0 → (((((x2 >>> (q1 &&& 31)) &&& (1 : Int32)) = 0 → (∀ y7 : Int32, y7 = q1 + (1 : Int32) → (R2 y7))) ∧ (¬ ((x2 >>> (q1 &&& 31)) &&& (1 : Int32)) = 0 → (K (1 : Int32)))))))))))
def wp_X0_leadsTo (p1 : Int32) (p2 : Int32) (p3 : Int32) (K : Int32 → Prop) : Prop :=
  Lp (F_X0_leadsTo_2 p1 p2 p3 K) (0 : Int32)
def F_X0_threads_15 (x0 : Int32) (x1 : Int32) (x2 : Int32) (R5 : Int32 × Int32 → Prop) (R15 : Int32 × Int32 → Prop) (q3 : Int32 × Int32) : Prop :=
  (((3 : Int32) ≤ q3.2 → (∀ y5 : Int32, y5 = x2 + (1 : Int32) → (R5 (q3.1, y5)))) ∧ (¬ (3 : Int32) ≤ q3.2 → (wp_X0_leadsTo x0 q3.2 x1 (fun r6 => ((r6 = 0 → (∀ y8 : Int32, y8 = q3.2 + (1 : Int32) → (R15 (q3.1, y8)))) ∧ (¬ r6 = 0 → (∀ y9 : Int32, y9 = (q3.1 ||| ((1 : Int32) <<< (q3.2 &&& 31))) → (∀ y10 : Int32, y10 = q3.2 + (1 : Int32) → (R15 (y9, y10))))))))))
def F_X0_threads_5 (x0 : Int32) (K : Int32 → Prop) (R5 : Int32 × Int32 → Prop) (q1 : Int32 × Int32) : Prop :=
  (((3 : Int32) ≤ q1.2 → (K q1.1)) ∧ (¬ (3 : Int32) ≤ q1.2 → (Lp (F_X0_threads_15 x0 q1.1 q1.2 R5) ((0 : Int32), (0 : Int32)))))
def wp_X0_threads (p1 : Int32) (K : Int32 → Prop) : Prop :=
  Lp (F_X0_threads_5 p1 K) ((7 : Int32), (0 : Int32))
def wp_X0_falls (p1 : Int32) (K : Int32 → Prop) : Prop :=
  wp_X0_join p1 p1 (fun r1 => wp_X0_hasLessToItself p1 (fun r2 => ((r2 = 0 → (wp_X0_hasLessToItself r1 (fun r4 => ((r4 = 0 → (wp_X0_join r1 p1 (fun r6 => wp_X0_hasLessToItself r6 (fun r7 => ((r7 = 0 → (K (0 : Int32))) ∧ (¬ r7 = 0 → (K (1 : Int32)))))))) ∧ (¬ r4 = 0 → (K (1 : Int32))))))) ∧ (¬ r2 = 0 → (K (1 : Int32))))))
def wp_X1_wipe (sB : St) (K : St → Prop) : Prop :=
  ∀ z1 : St, z1 = uf sB 0 4 (0 : Int32) → (∀ z2 : St, z2 = us z1 4 (0 : Int32) → (K z2))
def wp_X1_copyFrom (sB : St) (sO : St) (K : St → Prop) : Prop :=
  (¬ (4 : Int32) < 0 ∧ ((0 : Int32).toNatClampNeg + (4 : Int32).toNatClampNeg ≤ 4 ∧ ((0 : Int32).toNatClampNeg + (4 : Int32).toNatClampNeg ≤ 4 ∧ (∀ z1 : St, z1 = uc sB 0 (sO 0) (0 : Int32) (0 : Int32) (4 : Int32) → ((¬ (8 : Int32) < 0 ∧ ((0 : Int32).toNatClampNeg + (8 : Int32).toNatClampNeg ≤ 8 ∧ ((0 : Int32).toNatClampNeg + (8 : Int32).toNatClampNeg ≤ 8 ∧ (∀ z2 : St, z2 = uc z1 1 (sO 1) (0 : Int32) (0 : Int32) (8 : Int32) → ((¬ (8 : Int32) < 0 ∧ ((0 : Int32).toNatClampNeg + (8 : Int32).toNatClampNeg ≤ 8 ∧ ((0 : Int32).toNatClampNeg + (8 : Int32).toNatClampNeg ≤ 8 ∧ (∀ z3 : St, z3 = uc z2 2 (sO 2) (0 : Int32) (0 : Int32) (8 : Int32) → ((¬ (8 : Int32) < 0 ∧ ((0 : Int32).toNatClampNeg + (8 : Int32).toNatClampNeg ≤ 8 ∧ ((0 : Int32).toNatClampNeg + (8 : Int32).toNatClampNeg ≤ 8 ∧ (∀ z4 : St, z4 = uc z3 3 (sO 3) (0 : Int32) (0 : Int32) (8 : Int32) → (∀ z5 : St, z5 = us z4 4 (sO 4 0) → (K z5)))))))))))))))))))))
def wp_X1_hasCall (sB : St) (p1 : Int32) (K : Int32 → Prop) : Prop :=
  ((p1 < 0 → (K (0 : Int32))) ∧ (¬ p1 < 0 → (((sB 4 0 ≤ p1 → (K (0 : Int32))) ∧ (¬ sB 4 0 ≤ p1 → (K (1 : Int32)))))))
def wp_X1_hasPair (sB : St) (p1 : Int32) (p2 : Int32) (p3 : Int32) (K : Int32 → Prop) : Prop :=
  wp_X1_hasCall sB p1 (fun r1 => ((r1 = 0 → (K (0 : Int32))) ∧ (¬ r1 = 0 → (((p2 < 0 → (K (0 : Int32))) ∧ (¬ p2 < 0 → ((vp_in p1 8 ∧ ((vp_in (sB 1 p1.toNatClampNeg) 4 ∧ (((sB 0 (sB 1 p1.toNatClampNeg).toNatClampNeg ≤ p2 → (K (0 : Int32))) ∧ (¬ sB 0 (sB 1 p1.toNatClampNeg).toNatClampNeg ≤ p2 → (((p3 < 0 → (K (0 : Int32))) ∧ (¬ p3 < 0 → ((vp_in p1 8 ∧ ((vp_in (sB 2 p1.toNatClampNeg) 4 ∧ (((sB 0 (sB 2 p1.toNatClampNeg).toNatClampNeg ≤ p3 → (K (0 : Int32))) ∧ (¬ sB 0 (sB 2 p1.toNatClampNeg).toNatClampNeg ≤ p3 → (K (1 : Int32)))))))))))))))))))))))))
def wp_X1_add (sB : St) (p1 : Int32) (p2 : Int32) (K : St → Prop) : Prop :=
  (((8 : Int32) ≤ sB 4 0 → (K sB)) ∧ (¬ (8 : Int32) ≤ sB 4 0 → ((vp_in (sB 4 0) 8 ∧ (∀ z2 : St, z2 = ua sB 1 (sB 4 0) p1 → ((vp_in (z2 4 0) 8 ∧ (∀ z3 : St, z3 = ua z2 2 (z2 4 0) p2 → ((vp_in (z3 4 0) 8 ∧ (∀ z4 : St, z4 = ua z3 3 (z3 4 0) (0 : Int32) → (∀ z5 : St, z5 = us z4 4 (z4 4 0 + (1 : Int32)) → (K z5)))))))))))))
def F_X1_placesOfAll_4 (sB : St) (K : Int32 → Prop) (R4 : Int32 × Int32 → Prop) (q1 : Int32 × Int32) : Prop :=
  (((4 : Int32) ≤ q1.2 → (K q1.1)) ∧ (¬ (4 : Int32) ≤ q1.2 → ((vp_in q1.2 4 ∧ (∀ y3 : Int32, y3 = (q1.1 + sB 0 q1.2.toNatClampNeg) → (∀ y4 : Int32, y4 = q1.2 + (1 : Int32) → (R4 (y3, y4))))))))
def wp_X1_placesOfAll (sB : St) (K : Int32 → Prop) : Prop :=
  Lp (F_X1_placesOfAll_4 sB K) ((0 : Int32), (0 : Int32))
def F_X1_arcsOfAll_4 (sB : St) (K : Int32 → Prop) (R4 : Int32 × Int32 → Prop) (q1 : Int32 × Int32) : Prop :=
  ((sB 4 0 ≤ q1.2 → (K q1.1)) ∧ (¬ sB 4 0 ≤ q1.2 → ((vp_in q1.2 8 ∧ (wp_X0_howMany (sB 3 q1.2.toNatClampNeg) (1 : Int32) (fun r3 => ∀ y4 : Int32, y4 = (q1.1 + r3) → (∀ y5 : Int32, y5 = q1.2 + (1 : Int32) → (R4 (y4, y5)))))))))
def wp_X1_arcsOfAll (sB : St) (K : Int32 → Prop) : Prop :=
  Lp (F_X1_arcsOfAll_4 sB K) ((0 : Int32), (0 : Int32))
def F_X2_prepare_13 (x1 : Int32) (x2 : Int32) (K : St → Prop) (R13 : Int32 × St → Prop) (q2 : Int32 × St) : Prop :=
  (((63 : Int32) < q2.1 → ((vp_in x1 8 ∧ (∀ z4 : St, z4 = ua q2.2 6 x1 x2 → (K z4))))) ∧ (¬ (63 : Int32) < q2.1 → (((((q2.1 &&& (q2.1 >>> ((1 : Int32) &&& 31))) &&& (21 : Int32)) = 0 → (wp_X0_joinRow q2.1 x2 (fun r7 => (vp_in ((x1 * (64 : Int32)) + q2.1) 512 ∧ (∀ z8 : St, z8 = ua q2.2 5 ((x1 * (64 : Int32)) + q2.1) r7 → (∀ y9 : Int32, y9 = q2.1 + (1 : Int32) → (R13 (y9, z8)))))))) ∧ (¬ ((q2.1 &&& (q2.1 >>> ((1 : Int32) &&& 31))) &&& (21 : Int32)) = 0 → (∀ y6 : Int32, y6 = q2.1 + (1 : Int32) → (R13 (y6, q2.2))))))))
def wp_X2_prepare (sK : St) (p1 : Int32) (p2 : Int32) (K : St → Prop) : Prop :=
  (vp_in p1 8 ∧ (((sK 6 p1.toNatClampNeg = p2 → (K sK)) ∧ (¬ sK 6 p1.toNatClampNeg = p2 → (Lp (F_X2_prepare_13 p1 p2 K) ((0 : Int32), sK))))))
def wp_X3_of (p1 : Int32) (p2 : Int32) (p3 : Int32) (K : Int32 → Prop) : Prop :=
  K (((p1 <<< ((20 : Int32) &&& 31)) ||| (p2 <<< ((18 : Int32) &&& 31))) ||| p3)
def F_X2_freeSlotFor_10 (sK : St) (x1 : Int32) (x2 : Int32) (K : Int32 → Prop) (R10 : Int32 → Prop) (q2 : Int32) : Prop :=
  (((2048 : Int32) ≤ q2 → (K (-1 : Int32))) ∧ (¬ (2048 : Int32) ≤ q2 → (∀ y4 : Int32, y4 = ((x2 + q2) &&& (2047 : Int32)) → ((vp_in y4 2048 ∧ (((sK 3 y4.toNatClampNeg = 0 → (K y4)) ∧ (¬ sK 3 y4.toNatClampNeg = 0 → ((vp_in y4 2048 ∧ (((sK 3 y4.toNatClampNeg = (x1 + (1 : Int32)) → (K (-1 : Int32))) ∧ (¬ sK 3 y4.toNatClampNeg = (x1 + (1 : Int32)) → (∀ y7 : Int32, y7 = q2 + (1 : Int32) → (R10 y7)))))))))))))))
def wp_X2_freeSlotFor (sK : St) (p1 : Int32) (K : Int32 → Prop) : Prop :=
  ∀ y1 : Int32, y1 = ((p1 * (-1640531535 : Int32)).toUInt32 >>> ((21 : Int32).toUInt32 &&& Int32.toUInt32 31)).toInt32 → (Lp (F_X2_freeSlotFor_10 sK p1 y1 K) (0 : Int32))
def wp_X2_add (sK : St) (p1 : Int32) (p2 : Int32) (p3 : Int32) (K : St → Prop) : Prop :=
  wp_X2_freeSlotFor sK p1 (fun r1 => ((0 ≤ r1 → (((sK 7 0 < (1000 : Int32) → ((vp_in r1 2048 ∧ (∀ z4 : St, z4 = ua sK 3 r1 (p1 + (1 : Int32)) → ((vp_in (z4 7 0) 1000 ∧ (∀ z5 : St, z5 = ua z4 0 (z4 7 0) p1 → ((vp_in (z5 7 0) 1000 ∧ (∀ z6 : St, z6 = ua z5 1 (z5 7 0) p2 → ((vp_in (z6 7 0) 1000 ∧ (∀ z7 : St, z7 = ua z6 2 (z6 7 0) p3 → (∀ z8 : St, z8 = us z7 7 (z7 7 0 + (1 : Int32)) → (K z8))))))))))))))) ∧ (¬ sK 7 0 < (1000 : Int32) → (∀ z9 : St, z9 = us sK 8 (1 : Int32) → (K z9)))))) ∧ (¬ 0 ≤ r1 → (K sK))))
def wp_X3_from (p1 : Int32) (K : Int32 → Prop) : Prop :=
  K ((p1 >>> ((20 : Int32) &&& 31)) &&& (3 : Int32))
def wp_X3_to (p1 : Int32) (K : Int32 → Prop) : Prop :=
  K ((p1 >>> ((18 : Int32) &&& 31)) &&& (3 : Int32))
def wp_X3_isBad (p1 : Int32) (K : Int32 → Prop) : Prop :=
  ∀ y1 : Int32, y1 = (p1 &&& (262143 : Int32)) → (wp_X3_from p1 (fun r2 => wp_X3_to p1 (fun r3 => ((r2 = r3 → (wp_X0_hasLessToItself y1 (fun r5 => ((r5 = 0 → (wp_X0_join y1 y1 (fun r7 => ((r7 = y1 → (K (1 : Int32))) ∧ (¬ r7 = y1 → (K (0 : Int32))))))) ∧ (¬ r5 = 0 → (K (0 : Int32))))))) ∧ (¬ r2 = r3 → (K (0 : Int32)))))))
def wp_X2_noteBad (sK : St) (p1 : Int32) (K : St → Prop) : Prop :=
  (vp_in p1 1000 ∧ (wp_X3_from (sK 0 p1.toNatClampNeg) (fun r1 => ∀ z2 : St, z2 = us sK 11 (sK 11 0 ||| ((1 : Int32) <<< (r1 &&& 31))) → (((0 ≤ z2 10 0 → (K z2)) ∧ (¬ 0 ≤ z2 10 0 → (∀ z4 : St, z4 = us z2 10 p1 → (K z4))))))))
def wp_X2_joinedWithCall (sK : St) (p1 : Int32) (p2 : Int32) (K : Int32 → Prop) : Prop :=
  ∀ y1 : Int32, y1 = (p2 * (64 : Int32)) → (wp_X0_row p1 (0 : Int32) (fun r2 => (vp_in (y1 + r2) 512 ∧ (wp_X0_row p1 (1 : Int32) (fun r3 => (vp_in (y1 + r3) 512 ∧ (wp_X0_row p1 (2 : Int32) (fun r4 => (vp_in (y1 + r4) 512 ∧ (K ((sK 5 (y1 + r2).toNatClampNeg ||| (sK 5 (y1 + r3).toNatClampNeg <<< ((6 : Int32) &&& 31))) ||| (sK 5 (y1 + r4).toNatClampNeg <<< ((12 : Int32) &&& 31)))))))))))))
def F_X2_goOnFrom_25 (sB : St) (x1 : Int32) (x3 : Int32) (x4 : Int32) (x5 : Int32) (x6 : Int32) (K : St → Prop) (R25 : Int32 × St → Prop) (q4 : Int32 × St) : Prop :=
  ((sB 4 0 ≤ q4.1 → (K q4.2)) ∧ (¬ sB 4 0 ≤ q4.1 → ((vp_in q4.1 8 ∧ (((sB 1 q4.1.toNatClampNeg = x6 → (((((x3 >>> (q4.1 &&& 31)) &&& (1 : Int32)) = 0 → ((vp_in q4.1 8 ∧ (wp_X2_joinedWithCall q4.2 x4 q4.1 (fun r10 => wp_X3_of x5 (sB 2 q4.1.toNatClampNeg) r10 (fun r11 => wp_X2_add q4.2 r11 x1 q4.1 (fun u12 => ∀ y13 : Int32, y13 = q4.1 + (1 : Int32) → (R25 (y13, u12))))))))) ∧ (¬ ((x3 >>> (q4.1 &&& 31)) &&& (1 : Int32)) = 0 → (∀ y9 : Int32, y9 = q4.1 + (1 : Int32) → (R25 (y9, q4.2))))))) ∧ (¬ sB 1 q4.1.toNatClampNeg = x6 → (∀ y7 : Int32, y7 = q4.1 + (1 : Int32) → (R25 (y7, q4.2))))))))))
def wp_X2_goOnFrom (sK : St) (sB : St) (p1 : Int32) (p3 : Int32) (K : St → Prop) : Prop :=
  (vp_in p1 1000 ∧ (∀ y1 : Int32, y1 = sK 0 p1.toNatClampNeg → (wp_X3_from y1 (fun r2 => wp_X3_to y1 (fun r3 => Lp (F_X2_goOnFrom_25 sB p1 p3 y1 r2 r3 K) ((0 : Int32), sK))))))
def F_X2_grow_36 (sB : St) (x2 : Int32) (E104 : St → Prop) (R36 : Int32 × St → Prop) (q7 : Int32 × St) : Prop :=
  ((sB 4 0 ≤ q7.1 → (E104 q7.2)) ∧ (¬ sB 4 0 ≤ q7.1 → (((((x2 >>> (q7.1 &&& 31)) &&& (1 : Int32)) = 0 → ((vp_in q7.1 8 ∧ (wp_X2_prepare q7.2 q7.1 (sB 3 q7.1.toNatClampNeg) (fun u11 => (vp_in q7.1 8 ∧ ((vp_in q7.1 8 ∧ ((vp_in q7.1 8 ∧ (wp_X3_of (sB 1 q7.1.toNatClampNeg) (sB 2 q7.1.toNatClampNeg) (sB 3 q7.1.toNatClampNeg) (fun r12 => wp_X2_add u11 r12 (-1 : Int32) q7.1 (fun u13 => ∀ y14 : Int32, y14 = q7.1 + (1 : Int32) → (R36 (y14, u13))))))))))))))) ∧ (¬ ((x2 >>> (q7.1 &&& 31)) &&& (1 : Int32)) = 0 → (∀ y10 : Int32, y10 = q7.1 + (1 : Int32) → (R36 (y10, q7.2))))))))
def J_X2_grow_155 (sK : St) (sB : St) (x2 : Int32) (x4 : Int32) (R107 : Int32 × St → Prop) : Prop :=
  wp_X2_goOnFrom sK sB x4 x2 (fun u22 => ∀ y23 : Int32, y23 = x4 + (1 : Int32) → (R107 (y23, u22)))
def F_X2_grow_107 (sB : St) (x2 : Int32) (x3 : Int32) (K : St → Prop) (R107 : Int32 × St → Prop) (q16 : Int32 × St) : Prop :=
  ((q16.2 7 0 ≤ q16.1 → (K q16.2)) ∧ (¬ q16.2 7 0 ≤ q16.1 → ((((1000 : Int32) ≤ q16.1 → (K q16.2)) ∧ (¬ (1000 : Int32) ≤ q16.1 → (((q16.2 8 0 = 0 → ((vp_in q16.1 1000 ∧ (wp_X3_isBad (q16.2 0 q16.1.toNatClampNeg) (fun r20 => ((r20 = 0 → (J_X2_grow_155 q16.2 sB x2 q16.1 R107)) ∧ (¬ r20 = 0 → (wp_X2_noteBad q16.2 q16.1 (fun u24 => ((x3 = 0 → (J_X2_grow_155 u24 sB x2 q16.1 R107)) ∧ (¬ x3 = 0 → (K u24)))))))))))) ∧ (¬ q16.2 8 0 = 0 → (K q16.2)))))))))
def wp_X2_grow (sK : St) (sB : St) (p2 : Int32) (p3 : Int32) (K : St → Prop) : Prop :=
  ∀ z1 : St, z1 = us sK 7 (0 : Int32) → (∀ z2 : St, z2 = us z1 8 (0 : Int32) → (∀ z3 : St, z3 = us z2 9 (0 : Int32) → (∀ z4 : St, z4 = us z3 10 (-1 : Int32) → (∀ z5 : St, z5 = us z4 11 (0 : Int32) → (∀ z6 : St, z6 = uf z5 3 2048 (0 : Int32) → (Lp (F_X2_grow_36 sB p2 (fun q15 => Lp (F_X2_grow_107 sB p2 p3 K) ((0 : Int32), q15))) ((0 : Int32), z6)))))))
def F_X2_wayLength_4 (sK : St) (K : Int32 → Prop) (R4 : Int32 × Int32 → Prop) (q1 : Int32 × Int32) : Prop :=
  ((q1.2 < 0 → (K q1.1)) ∧ (¬ q1.2 < 0 → (((sK 7 0 ≤ q1.2 → (K q1.1)) ∧ (¬ sK 7 0 ≤ q1.2 → ((((1000 : Int32) ≤ q1.1 → (K q1.1)) ∧ (¬ (1000 : Int32) ≤ q1.1 → (∀ y5 : Int32, y5 = q1.1 + (1 : Int32) → ((vp_in q1.2 1000 ∧ (∀ y6 : Int32, y6 = sK 1 q1.2.toNatClampNeg → (R4 (y5, y6))))))))))))))
def wp_X2_wayLength (sK : St) (p1 : Int32) (K : Int32 → Prop) : Prop :=
  Lp (F_X2_wayLength_4 sK K) ((0 : Int32), p1)
def F_X2_callOnWay_13 (sK : St) (E43 : Int32 → Prop) (R13 : Int32 × Int32 → Prop) (q3 : Int32 × Int32) : Prop :=
  ((q3.2 ≤ 0 → (E43 q3.1)) ∧ (¬ q3.2 ≤ 0 → (((q3.1 < 0 → (E43 q3.1)) ∧ (¬ q3.1 < 0 → (((sK 7 0 ≤ q3.1 → (E43 q3.1)) ∧ (¬ sK 7 0 ≤ q3.1 → ((vp_in q3.1 1000 ∧ (∀ y7 : Int32, y7 = sK 1 q3.1.toNatClampNeg → (∀ y8 : Int32, y8 = q3.2 + (-1 : Int32) → (R13 (y7, y8))))))))))))))
def J_X2_callOnWay_43 (sK : St) (x3 : Int32) (K : Int32 → Prop) : Prop :=
  ((x3 < 0 → (K (-9 : Int32))) ∧ (¬ x3 < 0 → (((sK 7 0 ≤ x3 → (K (-9 : Int32))) ∧ (¬ sK 7 0 ≤ x3 → ((vp_in x3 1000 ∧ (K (sK 2 x3.toNatClampNeg)))))))))
def wp_X2_callOnWay (sK : St) (p1 : Int32) (p2 : Int32) (K : Int32 → Prop) : Prop :=
  wp_X2_wayLength sK p1 (fun r1 => ∀ y2 : Int32, y2 = ((r1 - (1 : Int32)) - p2) → (Lp (F_X2_callOnWay_13 sK (fun q9 => J_X2_callOnWay_43 sK q9 K)) (p1, y2)))
def F_X2_callsOnWay_7 (sK : St) (K : Int32 → Prop) (R7 : Int32 × Int32 × Int32 → Prop) (q1 : Int32 × Int32 × Int32) : Prop :=
  ((q1.2.2 < 0 → (K q1.1)) ∧ (¬ q1.2.2 < 0 → (((sK 7 0 ≤ q1.2.2 → (K q1.1)) ∧ (¬ sK 7 0 ≤ q1.2.2 → ((((1000 : Int32) ≤ q1.2.1 → (K q1.1)) ∧ (¬ (1000 : Int32) ≤ q1.2.1 → ((vp_in q1.2.2 1000 ∧ (∀ y5 : Int32, y5 = (q1.1 ||| ((1 : Int32) <<< (sK 2 q1.2.2.toNatClampNeg &&& 31))) → (∀ y6 : Int32, y6 = q1.2.1 + (1 : Int32) → ((vp_in q1.2.2 1000 ∧ (∀ y7 : Int32, y7 = sK 1 q1.2.2.toNatClampNeg → (R7 (y5, y6, y7)))))))))))))))))
def wp_X2_callsOnWay (sK : St) (p1 : Int32) (K : Int32 → Prop) : Prop :=
  Lp (F_X2_callsOnWay_7 sK K) ((0 : Int32), (0 : Int32), p1)
def F_X2_sortByGap_20 (x1 : Int32) (x3 : Int32) (E64 : Int32 × St → Prop) (R20 : Int32 × St → Prop) (q4 : Int32 × St) : Prop :=
  ((q4.1 < x1 → (E64 (q4.1, q4.2))) ∧ (¬ q4.1 < x1 → ((vp_in (q4.1 - x1) 1000 ∧ (((q4.2 4 (q4.1 - x1).toNatClampNeg ≤ x3 → (E64 (q4.1, q4.2))) ∧ (¬ q4.2 4 (q4.1 - x1).toNatClampNeg ≤ x3 → ((vp_in (q4.1 - x1) 1000 ∧ ((vp_in q4.1 1000 ∧ (∀ z7 : St, z7 = ua q4.2 4 q4.1 (q4.2 4 (q4.1 - x1).toNatClampNeg) → (∀ y8 : Int32, y8 = (q4.1 - x1) → (R20 (y8, z7)))))))))))))))
def F_X2_sortByGap_2 (x1 : Int32) (K : St → Prop) (R2 : Int32 × St → Prop) (q1 : Int32 × St) : Prop :=
  ((q1.2 7 0 ≤ q1.1 → (K q1.2)) ∧ (¬ q1.2 7 0 ≤ q1.1 → ((vp_in q1.1 1000 ∧ (∀ y3 : Int32, y3 = q1.2 4 q1.1.toNatClampNeg → (Lp (F_X2_sortByGap_20 x1 y3 (fun q9 => (vp_in q9.1 1000 ∧ (∀ z10 : St, z10 = ua q9.2 4 q9.1 y3 → (∀ y11 : Int32, y11 = q1.1 + (1 : Int32) → (R2 (y11, z10))))))) (q1.1, q1.2)))))))
def wp_X2_sortByGap (sK : St) (p1 : Int32) (K : St → Prop) : Prop :=
  Lp (F_X2_sortByGap_2 p1 K) (p1, sK)
def J_X2_keyInOrder_54 (sK : St) (x1 : Int32) (K : Int32 → St → Prop) : Prop :=
  ((x1 < 0 → (K (-9 : Int32) sK)) ∧ (¬ x1 < 0 → (((sK 7 0 ≤ x1 → (K (-9 : Int32) sK)) ∧ (¬ sK 7 0 ≤ x1 → ((vp_in x1 1000 ∧ (K (sK 4 x1.toNatClampNeg) sK))))))))
def F_X2_keyInOrder_26 (E49 : St → Prop) (R26 : Int32 × St → Prop) (q5 : Int32 × St) : Prop :=
  (((8 : Int32) ≤ q5.1 → (E49 q5.2)) ∧ (¬ (8 : Int32) ≤ q5.1 → ((vp_in q5.1 8 ∧ (wp_X2_sortByGap q5.2 (GAP q5.1.toNatClampNeg) (fun u7 => ∀ y8 : Int32, y8 = q5.1 + (1 : Int32) → (R26 (y8, u7))))))))
def wp_X2_keyInOrder (sK : St) (p1 : Int32) (K : Int32 → St → Prop) : Prop :=
  ((sK 9 0 = 0 → ((¬ (sK 7 0) < 0 ∧ ((0 : Int32).toNatClampNeg + (sK 7 0).toNatClampNeg ≤ 1000 ∧ ((0 : Int32).toNatClampNeg + (sK 7 0).toNatClampNeg ≤ 1000 ∧ (∀ z4 : St, z4 = uc sK 4 (sK 0) (0 : Int32) (0 : Int32) (sK 7 0) → (Lp (F_X2_keyInOrder_26 (fun q9 => ∀ z10 : St, z10 = us q9 9 (1 : Int32) → (J_X2_keyInOrder_54 z10 p1 K))) ((0 : Int32), z4)))))))) ∧ (¬ sK 9 0 = 0 → (J_X2_keyInOrder_54 sK p1 K)))
def wp_X3_arcs (p1 : Int32) (K : Int32 → Prop) : Prop :=
  K (p1 &&& (262143 : Int32))
def J_X2_fallsByOrder_26 (x2 : Int32) (t0 : Int32) (E34 : Int32 → Prop) (R2 : Int32 → Prop) : Prop :=
  ((t0 = (1 : Int32) → (∀ y7 : Int32, y7 = (x2 >>> ((2 : Int32) &&& 31)) → (R2 y7))) ∧ (¬ t0 = (1 : Int32) → (E34 t0)))
def F_X2_fallsByOrder_2 (x1 : Int32) (K : Int32 → Prop) (E34 : Int32 → Prop) (R2 : Int32 → Prop) (q1 : Int32) : Prop :=
  ((q1 ≤ 0 → (K (0 : Int32))) ∧ (¬ q1 ≤ 0 → (∀ y3 : Int32, y3 = ((q1 &&& (3 : Int32)) - (1 : Int32)) → (((0 ≤ y3 → (wp_X0_at x1 y3 y3 (fun r5 => J_X2_fallsByOrder_26 q1 r5 E34 R2))) ∧ (¬ 0 ≤ y3 → (J_X2_fallsByOrder_26 q1 (0 : Int32) E34 R2)))))))
def wp_X2_fallsByOrder (p1 : Int32) (p2 : Int32) (K : Int32 → Prop) : Prop :=
  Lp (F_X2_fallsByOrder_2 p2 K (fun q8 => ((q8 = (2 : Int32) → (K (1 : Int32))) ∧ (¬ q8 = (2 : Int32) → (K (0 : Int32)))))) p1
def F_X2_fallsBy_2 (sK : St) (x1 : Int32) (x2 : Int32) (K : Int32 → Prop) (R2 : Int32 → Prop) (q1 : Int32) : Prop :=
  ((sK 7 0 ≤ q1 → (K (1 : Int32))) ∧ (¬ sK 7 0 ≤ q1 → ((vp_in q1 1000 ∧ (∀ y3 : Int32, y3 = sK 0 q1.toNatClampNeg → (wp_X3_from y3 (fun r4 => ((r4 = x2 → (wp_X3_to y3 (fun r7 => ((r7 = x2 → (wp_X3_arcs y3 (fun r10 => wp_X2_fallsByOrder x1 r10 (fun r11 => ((r11 = 0 → (K (0 : Int32))) ∧ (¬ r11 = 0 → (∀ y13 : Int32, y13 = q1 + (1 : Int32) → (R2 y13)))))))) ∧ (¬ r7 = x2 → (∀ y9 : Int32, y9 = q1 + (1 : Int32) → (R2 y9))))))) ∧ (¬ r4 = x2 → (∀ y6 : Int32, y6 = q1 + (1 : Int32) → (R2 y6)))))))))))
def wp_X2_fallsBy (sK : St) (p1 : Int32) (p2 : Int32) (K : Int32 → Prop) : Prop :=
  Lp (F_X2_fallsBy_2 sK p1 p2 K) (0 : Int32)
def wp_X3_isRound (p1 : Int32) (K : Int32 → Prop) : Prop :=
  ∀ y1 : Int32, y1 = (p1 &&& (262143 : Int32)) → (wp_X3_from p1 (fun r2 => wp_X3_to p1 (fun r3 => ((r2 = r3 → (wp_X0_join y1 y1 (fun r5 => ((r5 = y1 → (K (1 : Int32))) ∧ (¬ r5 = y1 → (K (0 : Int32))))))) ∧ (¬ r2 = r3 → (K (0 : Int32)))))))
def wp_X4_forget (sM : St) (sJ : St) (K : St → Prop) : Prop :=
  ∀ z1 : St, z1 = us sM 3 (-1 : Int32) → (∀ z2 : St, z2 = us z1 6 (0 : Int32) → (K z2))
def wp_J6_bitCount_0f7a4 (p1 : Int32) (K : Int32 → Prop) : Prop :=
  ∀ y1 : Int32, y1 = (p1 - ((p1.toUInt32 >>> ((1 : Int32).toUInt32 &&& Int32.toUInt32 31)).toInt32 &&& (1431655765 : Int32))) → (∀ y2 : Int32, y2 = ((y1 &&& (858993459 : Int32)) + ((y1.toUInt32 >>> ((2 : Int32).toUInt32 &&& Int32.toUInt32 31)).toInt32 &&& (858993459 : Int32))) → (∀ y3 : Int32, y3 = ((y2 + (y2.toUInt32 >>> ((4 : Int32).toUInt32 &&& Int32.toUInt32 31)).toInt32) &&& (252645135 : Int32)) → (∀ y4 : Int32, y4 = (y3 + (y3.toUInt32 >>> ((8 : Int32).toUInt32 &&& Int32.toUInt32 31)).toInt32) → (∀ y5 : Int32, y5 = (y4 + (y4.toUInt32 >>> ((16 : Int32).toUInt32 &&& Int32.toUInt32 31)).toInt32) → (K (y5 &&& (63 : Int32)))))))
def F_X4_mends_2 (sM : St) (sJ : St) (x2 : Int32) (K : Int32 → (St × St) → Prop) (E29 : Unit → Prop) (R2 : Int32 → Prop) (q1 : Int32) : Prop :=
  ((sM 2 0 ≤ q1 → (E29 ())) ∧ (¬ sM 2 0 ≤ q1 → ((vp_in q1 256 ∧ ((((sM 1 q1.toNatClampNeg &&& x2) = 0 → (K (0 : Int32) (sM, sJ))) ∧ (¬ (sM 1 q1.toNatClampNeg &&& x2) = 0 → (∀ y4 : Int32, y4 = q1 + (1 : Int32) → (R2 y4)))))))))
def wp_X4_mends (sM : St) (sJ : St) (sB : St) (p2 : Int32) (K : Int32 → (St × St) → Prop) : Prop :=
  Lp (F_X4_mends_2 sM sJ p2 K (fun q5 => wp_X2_grow sJ sB p2 (1 : Int32) (fun u6 => ((0 ≤ u6 10 0 → ((((256 : Int32) ≤ sM 2 0 → (K (0 : Int32) (sM, u6))) ∧ (¬ (256 : Int32) ≤ sM 2 0 → (wp_X2_callsOnWay u6 (u6 10 0) (fun r9 => (vp_in (sM 2 0) 256 ∧ (∀ z10 : St, z10 = ua sM 1 (sM 2 0) r9 → (∀ z11 : St, z11 = us z10 2 (z10 2 0 + (1 : Int32)) → (K (0 : Int32) (z11, u6))))))))))) ∧ (¬ 0 ≤ u6 10 0 → (K (1 : Int32) (sM, u6))))))) (0 : Int32)
def F_X4_leastSet_37 (sB : St) (x2 : Int32) (x3 : Int32) (K : Int32 → (St × St) → Prop) (R26 : Int32 × St × St → Prop) (R37 : Int32 × St × St → Prop) (q6 : Int32 × St × St) : Prop :=
  ((x2 ≤ q6.1 → (∀ y8 : Int32, y8 = x3 + (1 : Int32) → (R26 (y8, q6.2.1, q6.2.2)))) ∧ (¬ x2 ≤ q6.1 → (wp_J6_bitCount_0f7a4 q6.1 (fun r9 => ((r9 = x3 → (wp_X4_mends q6.2.1 q6.2.2 sB q6.1 (fun r12 u12 => ((r12 = 0 → (∀ y14 : Int32, y14 = q6.1 + (1 : Int32) → (R37 (y14, u12.1, u12.2)))) ∧ (¬ r12 = 0 → (∀ z15 : St, z15 = us u12.1 3 q6.1 → (K (z15 3 0) (z15, u12.2)))))))) ∧ (¬ r9 = x3 → (∀ y11 : Int32, y11 = q6.1 + (1 : Int32) → (R37 (y11, q6.2.1, q6.2.2)))))))))
def F_X4_leastSet_26 (sB : St) (x2 : Int32) (K : Int32 → (St × St) → Prop) (E85 : St × St → Prop) (R26 : Int32 × St × St → Prop) (q4 : Int32 × St × St) : Prop :=
  ((sB 4 0 ≤ q4.1 → (E85 (q4.2.1, q4.2.2))) ∧ (¬ sB 4 0 ≤ q4.1 → (Lp (F_X4_leastSet_37 sB x2 q4.1 K R26) ((0 : Int32), q4.2.1, q4.2.2))))
def wp_X4_leastSet (sM : St) (sJ : St) (sB : St) (K : Int32 → (St × St) → Prop) : Prop :=
  ((sM 3 0 < 0 → (∀ z2 : St, z2 = us sM 2 (0 : Int32) → (∀ y3 : Int32, y3 = ((1 : Int32) <<< (sB 4 0 &&& 31)) → (Lp (F_X4_leastSet_26 sB y3 K (fun q16 => ∀ z17 : St, z17 = us q16.1 3 (y3 - (1 : Int32)) → (K (z17 3 0) (z17, q16.2)))) ((0 : Int32), z2, sJ))))) ∧ (¬ sM 3 0 < 0 → (K (sM 3 0) (sM, sJ))))
def J_X4_tryKept_106 (sM : St) (sJ : St) (sB : St) (x2 : Int32) (t1 : Int32) (K : (St × St × St) → Prop) : Prop :=
  (zb t1 ∧ (∀ z14 : St, z14 = us sM 7 t1 → (((sJ 10 0 < 0 → (K (z14, sJ, sB))) ∧ (¬ sJ 10 0 < 0 → ((((72 : Int32) ≤ z14 5 0 → (K (z14, sJ, sB))) ∧ (¬ (72 : Int32) ≤ z14 5 0 → ((vp_in (z14 5 0) 72 ∧ (∀ z17 : St, z17 = ua z14 4 (z14 5 0) x2 → (∀ z18 : St, z18 = us z17 5 (z17 5 0 + (1 : Int32)) → (K (z18, sJ, sB))))))))))))))
def wp_X4_tryKept (sM : St) (sJ : St) (sB : St) (p2 : Int32) (K : (St × St × St) → Prop) : Prop :=
  ∀ y1 : Int32, y1 = (p2 / (9 : Int32)) → (∀ y2 : Int32, y2 = ((p2 - p2 / (9 : Int32) * (9 : Int32)) / (3 : Int32)) → (∀ y3 : Int32, y3 = (p2 - p2 / (3 : Int32) * (3 : Int32)) → (wp_X1_hasPair sB y1 y2 y3 (fun r4 => ((r4 = 0 → (K (sM, sJ, sB))) ∧ (¬ r4 = 0 → ((vp_in y1 8 ∧ (wp_X0_at (sB 3 y1.toNatClampNeg) y2 y3 (fun r6 => ((r6 = (2 : Int32) → ((vp_in y1 8 ∧ (∀ y8 : Int32, y8 = sB 3 y1.toNatClampNeg → (wp_X0_with y8 y2 y3 (1 : Int32) (fun r9 => (vp_in y1 8 ∧ (∀ z10 : St, z10 = ua sB 3 y1 r9 → (wp_X2_grow sJ z10 (0 : Int32) (0 : Int32) (fun u11 => (vp_in y1 8 ∧ (∀ z12 : St, z12 = ua z10 3 y1 y8 → (((u11 8 0 = 0 → (J_X4_tryKept_106 sM u11 z12 p2 (1 : Int32) K)) ∧ (¬ u11 8 0 = 0 → (J_X4_tryKept_106 sM u11 z12 p2 (0 : Int32) K)))))))))))))))) ∧ (¬ r6 = (2 : Int32) → (K (sM, sJ, sB))))))))))))))
def F_X4_findsNeeded_19 (K : Int32 → (St × St × St) → Prop) (R19 : Int32 × St × St × St → Prop) (q4 : Int32 × St × St × St) : Prop :=
  (((72 : Int32) ≤ q4.1 → (∀ z6 : St, z6 = us q4.2.1 6 (1 : Int32) → ((zb (z6 7 0) ∧ K (z6 7 0) (z6, q4.2.2.1, q4.2.2.2))))) ∧ (¬ (72 : Int32) ≤ q4.1 → (((q4.2.1 7 0 = 0 → (∀ z8 : St, z8 = us q4.2.1 6 (1 : Int32) → ((zb (z8 7 0) ∧ K (z8 7 0) (z8, q4.2.2.1, q4.2.2.2))))) ∧ (¬ q4.2.1 7 0 = 0 → (wp_X4_tryKept q4.2.1 q4.2.2.1 q4.2.2.2 q4.1 (fun u9 => ∀ y10 : Int32, y10 = q4.1 + (1 : Int32) → (R19 (y10, u9.1, u9.2.1, u9.2.2)))))))))
def wp_X4_findsNeeded (sM : St) (sJ : St) (sB : St) (K : Int32 → (St × St × St) → Prop) : Prop :=
  ((sM 6 0 = 0 → (∀ z2 : St, z2 = us sM 5 (0 : Int32) → (∀ z3 : St, z3 = us z2 7 (1 : Int32) → (Lp (F_X4_findsNeeded_19 K) ((0 : Int32), z3, sJ, sB))))) ∧ (¬ sM 6 0 = 0 → ((zb (sM 7 0) ∧ K (sM 7 0) (sM, sJ, sB)))))
def wp_X4_neededAt (sM : St) (sJ : St) (p1 : Int32) (K : Int32 → Prop) : Prop :=
  ((p1 < 0 → (K (-1 : Int32))) ∧ (¬ p1 < 0 → (((sM 5 0 ≤ p1 → (K (-1 : Int32))) ∧ (¬ sM 5 0 ≤ p1 → ((vp_in p1 72 ∧ (K (sM 4 p1.toNatClampNeg)))))))))
def wp_X5_goesOnBy (sR : St) (sB : St) (p2 : Int32) (K : Int32 → Prop) : Prop :=
  ((sR 1 0 = 0 → (K (1 : Int32))) ∧ (¬ sR 1 0 = 0 → ((vp_in (sR 1 0 - (1 : Int32)) 12 ∧ ((vp_in (sR 0 (sR 1 0 - (1 : Int32)).toNatClampNeg) 8 ∧ ((vp_in p2 8 ∧ (((sB 2 (sR 0 (sR 1 0 - (1 : Int32)).toNatClampNeg).toNatClampNeg = sB 1 p2.toNatClampNeg → (K (1 : Int32))) ∧ (¬ sB 2 (sR 0 (sR 1 0 - (1 : Int32)).toNatClampNeg).toNatClampNeg = sB 1 p2.toNatClampNeg → (K (0 : Int32)))))))))))))
def wp_X5_take (sR : St) (p1 : Int32) (K : Int32 → St → Prop) : Prop :=
  ((sR 1 0 < (12 : Int32) → ((vp_in (sR 1 0) 12 ∧ (∀ z2 : St, z2 = ua sR 0 (sR 1 0) p1 → (∀ z3 : St, z3 = us z2 1 (z2 1 0 + (1 : Int32)) → (K (1 : Int32) z3)))))) ∧ (¬ sR 1 0 < (12 : Int32) → (K (0 : Int32) sR)))
def wp_X5_empty (sR : St) (K : Int32 → St → Prop) : Prop :=
  ∀ y1 : Int32, y1 = sR 1 0 → (∀ z2 : St, z2 = us sR 1 (0 : Int32) → (K y1 z2))
def wp_X5_comesBack (sR : St) (sB : St) (K : Int32 → Prop) : Prop :=
  ((sR 1 0 ≤ 0 → (K (0 : Int32))) ∧ (¬ sR 1 0 ≤ 0 → ((vp_in (sR 1 0 - (1 : Int32)) 12 ∧ ((vp_in (sR 0 (sR 1 0 - (1 : Int32)).toNatClampNeg) 8 ∧ ((vp_in (sR 0 0) 8 ∧ (((sB 2 (sR 0 (sR 1 0 - (1 : Int32)).toNatClampNeg).toNatClampNeg = sB 1 (sR 0 0).toNatClampNeg → (K (1 : Int32))) ∧ (¬ sB 2 (sR 0 (sR 1 0 - (1 : Int32)).toNatClampNeg).toNatClampNeg = sB 1 (sR 0 0).toNatClampNeg → (K (0 : Int32)))))))))))))
def F_X5_arcsOfAll_14 (sR : St) (sB : St) (K : Int32 → Prop) (R14 : Int32 × Int32 → Prop) (q2 : Int32 × Int32) : Prop :=
  ((sR 1 0 ≤ q2.2 → (K q2.1)) ∧ (¬ sR 1 0 ≤ q2.2 → ((vp_in q2.2 12 ∧ ((vp_in (sR 0 q2.2.toNatClampNeg) 8 ∧ (wp_X0_join q2.1 (sB 3 (sR 0 q2.2.toNatClampNeg).toNatClampNeg) (fun r4 => ∀ y5 : Int32, y5 = q2.2 + (1 : Int32) → (R14 (r4, y5))))))))))
def wp_X5_arcsOfAll (sR : St) (sB : St) (K : Int32 → Prop) : Prop :=
  (vp_in (sR 0 0) 8 ∧ (∀ y1 : Int32, y1 = sB 3 (sR 0 0).toNatClampNeg → (Lp (F_X5_arcsOfAll_14 sR sB K) (y1, (1 : Int32)))))
def wp_X6_fits (sV : St) (p1 : Int32) (p2 : Int32) (K : Int32 → Prop) : Prop :=
  ((p1 < 0 → (K (0 : Int32))) ∧ (¬ p1 < 0 → (((p2 = 0 → ((((0 : Int32) < p1 → (K (0 : Int32))) ∧ (¬ (0 : Int32) < p1 → (K (1 : Int32)))))) ∧ (¬ p2 = 0 → (((sV 0 0 < p1 → (K (0 : Int32))) ∧ (¬ sV 0 0 < p1 → (K (1 : Int32))))))))))
def J_X6_stateOf_60 (sV : St) (x2 : Int32) (x3 : Int32) (x4 : Int32) (x5 : Int32) (t1 : Int32) (t2 : Int32) (K : Int32 → Prop) : Prop :=
  wp_X6_fits sV t1 t2 (fun r9 => ((r9 = 0 → (K (-1 : Int32))) ∧ (¬ r9 = 0 → (K ((((x2 <<< ((6 : Int32) &&& 31)) ||| (x5 <<< ((4 : Int32) &&& 31))) ||| (x4 <<< ((2 : Int32) &&& 31))) ||| x3)))))
def J_X6_stateOf_40 (sV : St) (x2 : Int32) (x3 : Int32) (x4 : Int32) (x5 : Int32) (x6 : Int32) (t1 : Int32) (t2 : Int32) (K : Int32 → Prop) : Prop :=
  wp_X6_fits sV t1 t2 (fun r6 => ((r6 = 0 → (K (-1 : Int32))) ∧ (¬ r6 = 0 → (((x6 ≤ (2 : Int32) → (J_X6_stateOf_60 sV x2 x3 x4 x5 x5 (0 : Int32) K)) ∧ (¬ x6 ≤ (2 : Int32) → (J_X6_stateOf_60 sV x2 x3 x4 x5 x5 (1 : Int32) K)))))))
def J_X6_stateOf_20 (sV : St) (x2 : Int32) (x3 : Int32) (x4 : Int32) (x5 : Int32) (x6 : Int32) (t1 : Int32) (t2 : Int32) (K : Int32 → Prop) : Prop :=
  wp_X6_fits sV t1 t2 (fun r3 => ((r3 = 0 → (K (-1 : Int32))) ∧ (¬ r3 = 0 → (((x6 ≤ (1 : Int32) → (J_X6_stateOf_40 sV x2 x3 x4 x5 x6 x4 (0 : Int32) K)) ∧ (¬ x6 ≤ (1 : Int32) → (J_X6_stateOf_40 sV x2 x3 x4 x5 x6 x4 (1 : Int32) K)))))))
def wp_X6_stateOf (sV : St) (sB : St) (p2 : Int32) (p3 : Int32) (p4 : Int32) (p5 : Int32) (K : Int32 → Prop) : Prop :=
  (vp_in p2 4 ∧ (∀ y1 : Int32, y1 = sB 0 p2.toNatClampNeg → (((y1 ≤ 0 → (J_X6_stateOf_20 sV p2 p3 p4 p5 y1 p3 (0 : Int32) K)) ∧ (¬ y1 ≤ 0 → (J_X6_stateOf_20 sV p2 p3 p4 p5 y1 p3 (1 : Int32) K))))))
def J_X6_greatestAt_56 (x5 : Int32) (t0 : Int32) (t1 : Int32) (R9 : Int32 × Int32 → Prop) : Prop :=
  ∀ y9 : Int32, y9 = (if t1 < t0 then t1 else t0) → (∀ y10 : Int32, y10 = x5 + (1 : Int32) → (R9 (y9, y10)))
def F_X6_greatestAt_9 (x1 : Int32) (x2 : Int32) (x3 : Int32) (K : Int32 → Prop) (R9 : Int32 × Int32 → Prop) (q2 : Int32 × Int32) : Prop :=
  (((3 : Int32) ≤ q2.2 → (K q2.1)) ∧ (¬ (3 : Int32) ≤ q2.2 → (wp_X0_at x1 q2.2 x2 (fun r4 => ((r4 = 0 → (∀ y6 : Int32, y6 = q2.2 + (1 : Int32) → (R9 (q2.1, y6)))) ∧ (¬ r4 = 0 → (∀ y7 : Int32, y7 = ((x3 >>> (((2 : Int32) * q2.2) &&& 31)) &&& (3 : Int32)) → (((r4 = (2 : Int32) → (J_X6_greatestAt_56 q2.2 q2.1 (y7 - (1 : Int32)) R9)) ∧ (¬ r4 = (2 : Int32) → (J_X6_greatestAt_56 q2.2 q2.1 y7 R9)))))))))))
def wp_X6_greatestAt (sV : St) (p1 : Int32) (p2 : Int32) (p3 : Int32) (K : Int32 → Prop) : Prop :=
  ∀ y1 : Int32, y1 = sV 0 0 → (Lp (F_X6_greatestAt_9 p1 p2 p3 K) (y1, (0 : Int32)))
def F_X6_greatestAfter_18 (sV : St) (sB : St) (x2 : Int32) (x3 : Int32) (x4 : Int32) (K : Int32 → Prop) (R18 : Int32 × Int32 → Prop) (q3 : Int32 × Int32) : Prop :=
  (vp_in x4 4 ∧ (((sB 0 x4.toNatClampNeg ≤ q3.2 → (K q3.1)) ∧ (¬ sB 0 x4.toNatClampNeg ≤ q3.2 → ((vp_in x2 8 ∧ (wp_X6_greatestAt sV (sB 3 x2.toNatClampNeg) q3.2 x3 (fun r5 => ((0 ≤ r5 → (∀ y7 : Int32, y7 = (q3.1 ||| (r5 <<< (((2 : Int32) * q3.2) &&& 31))) → (∀ y8 : Int32, y8 = q3.2 + (1 : Int32) → (R18 (y7, y8))))) ∧ (¬ 0 ≤ r5 → (K (-1 : Int32))))))))))))
def wp_X6_greatestAfter (sV : St) (sB : St) (p2 : Int32) (p3 : Int32) (K : Int32 → Prop) : Prop :=
  (vp_in p2 8 ∧ (∀ y1 : Int32, y1 = sB 2 p2.toNatClampNeg → (∀ y2 : Int32, y2 = (y1 <<< ((6 : Int32) &&& 31)) → (Lp (F_X6_greatestAfter_18 sV sB p2 p3 y1 K) (y2, (0 : Int32))))))
def wp_X6_openState (sV : St) (p1 : Int32) (K : St → Prop) : Prop :=
  (((256 : Int32) ≤ sV 5 0 → (K sV)) ∧ (¬ (256 : Int32) ≤ sV 5 0 → ((vp_in p1 256 ∧ (∀ z2 : St, z2 = ua sV 1 p1 (1 : Int32) → ((vp_in p1 256 ∧ (∀ z3 : St, z3 = ua z2 3 p1 (0 : Int32) → ((vp_in p1 256 ∧ (∀ z4 : St, z4 = ua z3 4 p1 (0 : Int32) → ((vp_in (z4 5 0) 256 ∧ (∀ z5 : St, z5 = ua z4 2 (z4 5 0) p1 → (∀ z6 : St, z6 = us z5 5 (z5 5 0 + (1 : Int32)) → (K z6))))))))))))))))
def wp_X6_lengthen (sV : St) (p1 : Int32) (p2 : Int32) (K : St → Prop) : Prop :=
  (vp_in p1 256 ∧ ((vp_in p2 256 ∧ ((vp_in p1 256 ∧ (∀ z1 : St, z1 = ua sV 4 p1 (if sV 4 p1.toNatClampNeg < (sV 4 p2.toNatClampNeg + (1 : Int32)) then (sV 4 p2.toNatClampNeg + (1 : Int32)) else sV 4 p1.toNatClampNeg) → (K z1)))))))
def wp_X6_closeState (sV : St) (p1 : Int32) (K : St → Prop) : Prop :=
  (vp_in p1 256 ∧ (∀ z1 : St, z1 = ua sV 1 p1 (2 : Int32) → (∀ z2 : St, z2 = us z1 5 (z1 5 0 - (1 : Int32)) → (((z2 5 0 ≤ 0 → (K z2)) ∧ (¬ z2 5 0 ≤ 0 → ((vp_in (z2 5 0 - (1 : Int32)) 256 ∧ (wp_X6_lengthen z2 (z2 2 (z2 5 0 - (1 : Int32)).toNatClampNeg) p1 (fun u4 => K u4))))))))))
def wp_X6_goesBy (sV : St) (sB : St) (p2 : Int32) (p3 : Int32) (K : Int32 → St → Prop) : Prop :=
  wp_X6_greatestAfter sV sB p2 p3 (fun r1 => ((0 ≤ r1 → ((vp_in r1 256 ∧ (((sV 1 r1.toNatClampNeg = (1 : Int32) → (K (0 : Int32) sV)) ∧ (¬ sV 1 r1.toNatClampNeg = (1 : Int32) → ((vp_in r1 256 ∧ (((sV 1 r1.toNatClampNeg = 0 → (wp_X6_openState sV r1 (fun u6 => K (1 : Int32) u6))) ∧ (¬ sV 1 r1.toNatClampNeg = 0 → (wp_X6_lengthen sV p3 r1 (fun u5 => K (1 : Int32) u5))))))))))))) ∧ (¬ 0 ≤ r1 → (K (1 : Int32) sV))))
def F_X6_longestFrom_20 (sB : St) (x2 : Int32) (K : Int32 → St → Prop) (R20 : Int32 × St → Prop) (q4 : Int32 × St) : Prop :=
  (((2304 : Int32) ≤ q4.1 → ((vp_in x2 256 ∧ (K (q4.2 4 x2.toNatClampNeg) q4.2)))) ∧ (¬ (2304 : Int32) ≤ q4.1 → (((q4.2 5 0 ≤ 0 → ((vp_in x2 256 ∧ (K (q4.2 4 x2.toNatClampNeg) q4.2)))) ∧ (¬ q4.2 5 0 ≤ 0 → ((vp_in (q4.2 5 0 - (1 : Int32)) 256 ∧ (∀ y7 : Int32, y7 = q4.2 2 (q4.2 5 0 - (1 : Int32)).toNatClampNeg → ((vp_in y7 256 ∧ (∀ y8 : Int32, y8 = q4.2 3 y7.toNatClampNeg → ((vp_in y7 256 ∧ ((vp_in y7 256 ∧ (∀ z9 : St, z9 = ua q4.2 3 y7 (q4.2 3 y7.toNatClampNeg + (1 : Int32)) → (wp_X1_hasCall sB y8 (fun r10 => ((r10 = 0 → (wp_X6_closeState z9 y7 (fun u17 => ∀ y18 : Int32, y18 = q4.1 + (1 : Int32) → (R20 (y18, u17))))) ∧ (¬ r10 = 0 → ((vp_in y8 8 ∧ (((sB 1 y8.toNatClampNeg = (y7 >>> ((6 : Int32) &&& 31)) → (wp_X6_goesBy z9 sB y8 y7 (fun r14 u14 => ((r14 = 0 → (K (-4 : Int32) u14)) ∧ (¬ r14 = 0 → (∀ y16 : Int32, y16 = q4.1 + (1 : Int32) → (R20 (y16, u14)))))))) ∧ (¬ sB 1 y8.toNatClampNeg = (y7 >>> ((6 : Int32) &&& 31)) → (∀ y13 : Int32, y13 = q4.1 + (1 : Int32) → (R20 (y13, z9))))))))))))))))))))))))))))
def wp_X6_longestFrom (sV : St) (sB : St) (p2 : Int32) (K : Int32 → St → Prop) : Prop :=
  ∀ z1 : St, z1 = uf sV 1 256 (0 : Int32) → (∀ z2 : St, z2 = us z1 5 (0 : Int32) → (wp_X6_openState z2 p2 (fun u3 => Lp (F_X6_longestFrom_20 sB p2 K) ((0 : Int32), u3))))
def wp_X6_isWithin (p1 : Int32) (p2 : Int32) (K : Int32 → Prop) : Prop :=
  (((p2 &&& (3 : Int32)) < (p1 &&& (3 : Int32)) → (K (0 : Int32))) ∧ (¬ (p2 &&& (3 : Int32)) < (p1 &&& (3 : Int32)) → (((((p2 >>> ((2 : Int32) &&& 31)) &&& (3 : Int32)) < ((p1 >>> ((2 : Int32) &&& 31)) &&& (3 : Int32)) → (K (0 : Int32))) ∧ (¬ ((p2 >>> ((2 : Int32) &&& 31)) &&& (3 : Int32)) < ((p1 >>> ((2 : Int32) &&& 31)) &&& (3 : Int32)) → (((((p2 >>> ((4 : Int32) &&& 31)) &&& (3 : Int32)) < ((p1 >>> ((4 : Int32) &&& 31)) &&& (3 : Int32)) → (K (0 : Int32))) ∧ (¬ ((p2 >>> ((4 : Int32) &&& 31)) &&& (3 : Int32)) < ((p1 >>> ((4 : Int32) &&& 31)) &&& (3 : Int32)) → (K (1 : Int32))))))))))
def F_X6_markUpTo_16 (x1 : Int32) (K : Int32 → St → Prop) (R16 : Int32 × Int32 × St → Prop) (q3 : Int32 × Int32 × St) : Prop :=
  ((x1 < q3.2.1 → (K q3.1 q3.2.2)) ∧ (¬ x1 < q3.2.1 → ((((256 : Int32) ≤ q3.2.1 → (K q3.1 q3.2.2)) ∧ (¬ (256 : Int32) ≤ q3.2.1 → ((vp_in q3.2.1 256 ∧ (((q3.2.2 1 q3.2.1.toNatClampNeg = 0 → (wp_X6_isWithin q3.2.1 x1 (fun r8 => ((r8 = 0 → (∀ y10 : Int32, y10 = q3.2.1 + (1 : Int32) → (R16 (q3.1, y10, q3.2.2)))) ∧ (¬ r8 = 0 → ((vp_in q3.2.1 256 ∧ (∀ z11 : St, z11 = ua q3.2.2 1 q3.2.1 (2 : Int32) → (∀ y12 : Int32, y12 = q3.1 + (1 : Int32) → (∀ y13 : Int32, y13 = q3.2.1 + (1 : Int32) → (R16 (y12, y13, z11)))))))))))) ∧ (¬ q3.2.2 1 q3.2.1.toNatClampNeg = 0 → (∀ y7 : Int32, y7 = q3.2.1 + (1 : Int32) → (R16 (q3.1, y7, q3.2.2)))))))))))))
def wp_X6_markUpTo (sV : St) (p1 : Int32) (K : Int32 → St → Prop) : Prop :=
  ((0 ≤ p1 → (∀ y2 : Int32, y2 = (p1 &&& (-64 : Int32)) → (Lp (F_X6_markUpTo_16 p1 K) ((0 : Int32), y2, sV)))) ∧ (¬ 0 ≤ p1 → (K (0 : Int32) sV)))
def F_X6_statesAfter_13 (sB : St) (x2 : Int32) (K : Int32 → St → Prop) (R13 : Int32 × Int32 × St → Prop) (q2 : Int32 × Int32 × St) : Prop :=
  ((sB 4 0 ≤ q2.2.1 → (K q2.1 q2.2.2)) ∧ (¬ sB 4 0 ≤ q2.2.1 → ((vp_in q2.2.1 8 ∧ (((sB 1 q2.2.1.toNatClampNeg = (x2 >>> ((6 : Int32) &&& 31)) → (wp_X6_greatestAfter q2.2.2 sB q2.2.1 x2 (fun r6 => wp_X6_markUpTo q2.2.2 r6 (fun r7 u7 => ∀ y8 : Int32, y8 = (q2.1 + r7) → (∀ y9 : Int32, y9 = q2.2.1 + (1 : Int32) → (R13 (y8, y9, u7))))))) ∧ (¬ sB 1 q2.2.1.toNatClampNeg = (x2 >>> ((6 : Int32) &&& 31)) → (∀ y5 : Int32, y5 = q2.2.1 + (1 : Int32) → (R13 (q2.1, y5, q2.2.2))))))))))
def wp_X6_statesAfter (sV : St) (sB : St) (p2 : Int32) (K : Int32 → St → Prop) : Prop :=
  ∀ z1 : St, z1 = uf sV 1 256 (0 : Int32) → (Lp (F_X6_statesAfter_13 sB p2 K) ((0 : Int32), (0 : Int32), z1))
def F_X7_take_23 (x1 : Int64) (K : Int32 → St → Prop) (R23 : Int32 × St → Prop) (q4 : Int32 × St) : Prop :=
  ((q4.1 < 0 → (K (1 : Int32) q4.2)) ∧ (¬ q4.1 < 0 → ((vp_in (q4.2 1 0) 300 ∧ (∀ z6 : St, z6 = ua q4.2 0 (q4.2 1 0) (((x1.toUInt64 >>> (((8 : Int32) * q4.1).toInt64.toUInt64 &&& Int64.toUInt64 63)).toInt64 &&& (255 : Int64)).toInt32) → (∀ z7 : St, z7 = us z6 1 (z6 1 0 + (1 : Int32)) → (∀ y8 : Int32, y8 = q4.1 + (-1 : Int32) → (R23 (y8, z7)))))))))
def wp_X7_take (sT : St) (p1 : Int64) (p2 : Int32) (K : Int32 → St → Prop) : Prop :=
  ((p2 < 0 → (K (0 : Int32) sT)) ∧ (¬ p2 < 0 → ((((sT 1 0 + p2) ≤ (300 : Int32) → (∀ y3 : Int32, y3 = (p2 - (1 : Int32)) → (Lp (F_X7_take_23 p1 K) (y3, sT)))) ∧ (¬ (sT 1 0 + p2) ≤ (300 : Int32) → (K (0 : Int32) sT))))))
def wp_X7_empty (sT : St) (K : Int32 → St → Prop) : Prop :=
  ∀ y1 : Int32, y1 = sT 1 0 → (∀ z2 : St, z2 = us sT 1 (0 : Int32) → (K y1 z2))
def wp_X7_isLetter (sT : St) (p1 : Int32) (K : Int32 → Prop) : Prop :=
  (vp_in p1 300 ∧ (((sT 0 p1.toNatClampNeg < (97 : Int32) → (K (0 : Int32))) ∧ (¬ sT 0 p1.toNatClampNeg < (97 : Int32) → ((vp_in p1 300 ∧ ((((122 : Int32) < sT 0 p1.toNatClampNeg → (K (0 : Int32))) ∧ (¬ (122 : Int32) < sT 0 p1.toNatClampNeg → (K (1 : Int32)))))))))))
def F_X7_isWord_20 (sT : St) (p1 : Nat) (K : Int32 → Prop) (R20 : Int32 → Prop) (q2 : Int32) : Prop :=
  (((SLEN p1) ≤ q2 → (K (1 : Int32))) ∧ (¬ (SLEN p1) ≤ q2 → ((vp_in (sT 2 0 + q2) 300 ∧ ((vp_in q2 (SLENn p1) ∧ (((sT 0 (sT 2 0 + q2).toNatClampNeg = (SCH p1 q2.toNatClampNeg) → (∀ y5 : Int32, y5 = q2 + (1 : Int32) → (R20 y5))) ∧ (¬ sT 0 (sT 2 0 + q2).toNatClampNeg = (SCH p1 q2.toNatClampNeg) → (K (0 : Int32)))))))))))
def wp_X7_isWord (sT : St) (p1 : Nat) (K : Int32 → Prop) : Prop :=
  (((sT 5 0 - sT 2 0) = (SLEN p1) → (Lp (F_X7_isWord_20 sT p1 K) (0 : Int32))) ∧ (¬ (sT 5 0 - sT 2 0) = (SLEN p1) → (K (0 : Int32))))
def F_X7_scanWord_0 (E35 : St → Prop) (R0 : St → Prop) (q1 : St) : Prop :=
  ((q1 1 0 ≤ q1 5 0 → (E35 q1)) ∧ (¬ q1 1 0 ≤ q1 5 0 → (wp_X7_isLetter q1 (q1 5 0) (fun r3 => ((r3 = 0 → (E35 q1)) ∧ (¬ r3 = 0 → (∀ z5 : St, z5 = us q1 5 (q1 5 0 + (1 : Int32)) → (R0 z5))))))))
def J_X7_scanWord_35 (sT : St) (K : St → Prop) : Prop :=
  wp_X7_isWord sT (0) (fun r7 => ((r7 = 0 → (wp_X7_isWord sT (1) (fun r9 => ((r9 = 0 → (∀ z11 : St, z11 = us sT 3 (0 : Int32) → (K z11))) ∧ (¬ r9 = 0 → (∀ z12 : St, z12 = us sT 3 (3 : Int32) → (K z12))))))) ∧ (¬ r7 = 0 → (∀ z13 : St, z13 = us sT 3 (2 : Int32) → (K z13)))))
def wp_X7_scanWord (sT : St) (K : St → Prop) : Prop :=
  Lp (F_X7_scanWord_0 (fun q6 => J_X7_scanWord_35 q6 K)) sT
def wp_X7_isFigure (sT : St) (p1 : Int32) (K : Int32 → Prop) : Prop :=
  (vp_in p1 300 ∧ (((sT 0 p1.toNatClampNeg < (48 : Int32) → (K (0 : Int32))) ∧ (¬ sT 0 p1.toNatClampNeg < (48 : Int32) → ((vp_in p1 300 ∧ ((((57 : Int32) < sT 0 p1.toNatClampNeg → (K (0 : Int32))) ∧ (¬ (57 : Int32) < sT 0 p1.toNatClampNeg → (K (1 : Int32)))))))))))
def F_X7_scanNumber_0 (E35 : St → Prop) (R0 : St → Prop) (q1 : St) : Prop :=
  ((q1 1 0 ≤ q1 5 0 → (E35 q1)) ∧ (¬ q1 1 0 ≤ q1 5 0 → (wp_X7_isFigure q1 (q1 5 0) (fun r3 => ((r3 = 0 → (E35 q1)) ∧ (¬ r3 = 0 → (∀ z5 : St, z5 = us q1 5 (q1 5 0 + (1 : Int32)) → (R0 z5))))))))
def J_X7_scanNumber_54 (sT : St) (t1 : Int32) (K : St → Prop) : Prop :=
  ∀ z8 : St, z8 = us sT 3 t1 → ((vp_in (z8 2 0) 300 ∧ (∀ z9 : St, z9 = us z8 4 (z8 0 (z8 2 0).toNatClampNeg - (48 : Int32)) → (K z9))))
def J_X7_scanNumber_35 (sT : St) (K : St → Prop) : Prop :=
  ((sT 5 0 = (sT 2 0 + (1 : Int32)) → (J_X7_scanNumber_54 sT (5 : Int32) K)) ∧ (¬ sT 5 0 = (sT 2 0 + (1 : Int32)) → (J_X7_scanNumber_54 sT (0 : Int32) K)))
def wp_X7_scanNumber (sT : St) (K : St → Prop) : Prop :=
  Lp (F_X7_scanNumber_0 (fun q6 => J_X7_scanNumber_35 q6 K)) sT
def J_X7_scanSign_33 (sT : St) (x1 : Int32) (K : St → Prop) : Prop :=
  ((x1 = (62 : Int32) → (∀ z8 : St, z8 = us sT 3 (6 : Int32) → (K z8))) ∧ (¬ x1 = (62 : Int32) → (((x1 = (61 : Int32) → (∀ z7 : St, z7 = us sT 3 (7 : Int32) → (K z7))) ∧ (¬ x1 = (61 : Int32) → (((x1 = (59 : Int32) → (∀ z6 : St, z6 = us sT 3 (8 : Int32) → (K z6))) ∧ (¬ x1 = (59 : Int32) → (K sT)))))))))
def wp_X7_scanSign (sT : St) (p1 : Int32) (K : St → Prop) : Prop :=
  ∀ z1 : St, z1 = us sT 3 (0 : Int32) → (((p1 < (65 : Int32) → (J_X7_scanSign_33 z1 p1 K)) ∧ (¬ p1 < (65 : Int32) → ((((69 : Int32) ≤ p1 → (J_X7_scanSign_33 z1 p1 K)) ∧ (¬ (69 : Int32) ≤ p1 → (∀ z10 : St, z10 = us z1 3 (4 : Int32) → (∀ z11 : St, z11 = us z10 4 (p1 - (65 : Int32)) → (K z11)))))))))
def F_X7_advance_8 (E46 : St → Prop) (R8 : St → Prop) (q2 : St) : Prop :=
  ((q2 1 0 ≤ q2 2 0 → (E46 q2)) ∧ (¬ q2 1 0 ≤ q2 2 0 → ((vp_in (q2 2 0) 300 ∧ (((q2 0 (q2 2 0).toNatClampNeg = (32 : Int32) → (∀ z5 : St, z5 = us q2 2 (q2 2 0 + (1 : Int32)) → (R8 z5))) ∧ (¬ q2 0 (q2 2 0).toNatClampNeg = (32 : Int32) → (E46 q2))))))))
def J_X7_advance_46 (sT : St) (K : St → Prop) : Prop :=
  ∀ z7 : St, z7 = us sT 5 (sT 2 0 + (1 : Int32)) → (∀ z8 : St, z8 = us z7 4 (0 : Int32) → (((z8 2 0 < z8 1 0 → (wp_X7_isLetter z8 (z8 2 0) (fun r10 => ((r10 = 0 → (wp_X7_isFigure z8 (z8 2 0) (fun r12 => ((r12 = 0 → ((vp_in (z8 2 0) 300 ∧ (wp_X7_scanSign z8 (z8 0 (z8 2 0).toNatClampNeg) (fun u14 => K u14))))) ∧ (¬ r12 = 0 → (wp_X7_scanNumber z8 (fun u15 => K u15))))))) ∧ (¬ r10 = 0 → (wp_X7_scanWord z8 (fun u16 => K u16))))))) ∧ (¬ z8 2 0 < z8 1 0 → (∀ z17 : St, z17 = us z8 5 (z8 1 0) → (∀ z18 : St, z18 = us z17 3 (1 : Int32) → (K z18)))))))
def wp_X7_advance (sT : St) (K : St → Prop) : Prop :=
  ∀ z1 : St, z1 = us sT 2 (sT 5 0) → (Lp (F_X7_advance_8 (fun q6 => J_X7_advance_46 q6 K)) z1)
def wp_X7_stands (sT : St) (p1 : Int32) (K : Int32 → St → Prop) : Prop :=
  ((p1 = 0 → (∀ z2 : St, z2 = us sT 7 (sT 2 0) → ((zb p1 ∧ K p1 z2)))) ∧ (¬ p1 = 0 → ((zb p1 ∧ K p1 sT))))
def J_X7_readAct_115 (sT : St) (sB : St) (t1 : Int32) (K : (St × St) → Prop) : Prop :=
  wp_X7_stands sT t1 (fun r14 u14 => ((r14 = 0 → (K (u14, sB))) ∧ (¬ r14 = 0 → (wp_X7_advance u14 (fun u16 => K (u16, sB))))))
def J_X7_readAct_79 (sT : St) (sB : St) (x2 : Int32) (t1 : Int32) (K : (St × St) → Prop) : Prop :=
  wp_X7_stands sT t1 (fun r9 u9 => ((r9 = 0 → (K (u9, sB))) ∧ (¬ r9 = 0 → ((vp_in x2 4 ∧ (∀ z11 : St, z11 = ua sB 0 x2 (u9 4 0) → (wp_X7_advance u9 (fun u12 => ((u12 3 0 = (8 : Int32) → (J_X7_readAct_115 u12 z11 (1 : Int32) K)) ∧ (¬ u12 3 0 = (8 : Int32) → (J_X7_readAct_115 u12 z11 (0 : Int32) K)))))))))))
def J_X7_readAct_78 (sT : St) (sB : St) (x2 : Int32) (K : (St × St) → Prop) : Prop :=
  J_X7_readAct_79 sT sB x2 (0 : Int32) K
def J_X7_readAct_34 (sT : St) (sB : St) (x2 : Int32) (t1 : Int32) (K : (St × St) → Prop) : Prop :=
  wp_X7_stands sT t1 (fun r4 u4 => ((r4 = 0 → (K (u4, sB))) ∧ (¬ r4 = 0 → (∀ z6 : St, z6 = us u4 6 (u4 6 0 ||| ((1 : Int32) <<< (x2 &&& 31))) → (wp_X7_advance z6 (fun u7 => ((u7 3 0 = (5 : Int32) → ((((3 : Int32) < u7 4 0 → (J_X7_readAct_78 u7 sB x2 K)) ∧ (¬ (3 : Int32) < u7 4 0 → (J_X7_readAct_79 u7 sB x2 (1 : Int32) K))))) ∧ (¬ u7 3 0 = (5 : Int32) → (J_X7_readAct_78 u7 sB x2 K)))))))))
def J_X7_readAct_33 (sT : St) (sB : St) (x2 : Int32) (K : (St × St) → Prop) : Prop :=
  J_X7_readAct_34 sT sB x2 (0 : Int32) K
def wp_X7_readAct (sT : St) (sB : St) (K : (St × St) → Prop) : Prop :=
  wp_X7_advance sT (fun u1 => ∀ y2 : Int32, y2 = u1 4 0 → (((u1 3 0 = (4 : Int32) → (((((u1 6 0 >>> (y2 &&& 31)) &&& (1 : Int32)) = 0 → (J_X7_readAct_34 u1 sB y2 (1 : Int32) K)) ∧ (¬ ((u1 6 0 >>> (y2 &&& 31)) &&& (1 : Int32)) = 0 → (J_X7_readAct_33 u1 sB y2 K))))) ∧ (¬ u1 3 0 = (4 : Int32) → (J_X7_readAct_33 u1 sB y2 K)))))
def J_X7_readArc_132 (sT : St) (sB : St) (x2 : Int32) (x3 : Int32) (x4 : Int32) (x5 : Int32) (t1 : Int32) (K : (St × St) → Prop) : Prop :=
  wp_X7_stands sT t1 (fun r13 u13 => ((r13 = 0 → (K (u13, sB))) ∧ (¬ r13 = 0 → ((vp_in x2 8 ∧ (wp_X0_at (sB 3 x2.toNatClampNeg) x3 x5 (fun r15 => (vp_in x2 8 ∧ (wp_X0_with (sB 3 x2.toNatClampNeg) x3 x5 (if r15 < x4 then x4 else r15) (fun r16 => (vp_in x2 8 ∧ (∀ z17 : St, z17 = ua sB 3 x2 r16 → (wp_X7_advance u13 (fun u18 => K (u18, z17)))))))))))))))
def J_X7_readArc_131 (sT : St) (sB : St) (x2 : Int32) (x3 : Int32) (x4 : Int32) (x5 : Int32) (K : (St × St) → Prop) : Prop :=
  J_X7_readArc_132 sT sB x2 x3 x4 x5 (0 : Int32) K
def J_X7_readArc_85 (sT : St) (sB : St) (x2 : Int32) (x3 : Int32) (x4 : Int32) (t1 : Int32) (K : (St × St) → Prop) : Prop :=
  wp_X7_stands sT t1 (fun r8 u8 => ((r8 = 0 → (K (u8, sB))) ∧ (¬ r8 = 0 → (wp_X7_advance u8 (fun u10 => ∀ y11 : Int32, y11 = u10 4 0 → (((u10 3 0 = (5 : Int32) → ((vp_in x2 8 ∧ ((vp_in (sB 2 x2.toNatClampNeg) 4 ∧ (((sB 0 (sB 2 x2.toNatClampNeg).toNatClampNeg ≤ y11 → (J_X7_readArc_131 u10 sB x2 x3 x4 y11 K)) ∧ (¬ sB 0 (sB 2 x2.toNatClampNeg).toNatClampNeg ≤ y11 → (J_X7_readArc_132 u10 sB x2 x3 x4 y11 (1 : Int32) K))))))))) ∧ (¬ u10 3 0 = (5 : Int32) → (J_X7_readArc_131 u10 sB x2 x3 x4 y11 K)))))))))
def J_X7_readArc_80 (sT : St) (sB : St) (x2 : Int32) (x3 : Int32) (x4 : Int32) (K : (St × St) → Prop) : Prop :=
  J_X7_readArc_85 sT sB x2 x3 x4 (1 : Int32) K
def J_X7_readArc_59 (sT : St) (sB : St) (x2 : Int32) (x3 : Int32) (t0 : Int32) (K : (St × St) → Prop) : Prop :=
  ((sT 3 0 = (6 : Int32) → (J_X7_readArc_80 sT sB x2 x3 t0 K)) ∧ (¬ sT 3 0 = (6 : Int32) → (((sT 3 0 = (7 : Int32) → (J_X7_readArc_80 sT sB x2 x3 t0 K)) ∧ (¬ sT 3 0 = (7 : Int32) → (J_X7_readArc_85 sT sB x2 x3 t0 (0 : Int32) K))))))
def J_X7_readArc_34 (sT : St) (sB : St) (x2 : Int32) (x3 : Int32) (t1 : Int32) (K : (St × St) → Prop) : Prop :=
  wp_X7_stands sT t1 (fun r3 u3 => ((r3 = 0 → (K (u3, sB))) ∧ (¬ r3 = 0 → (wp_X7_advance u3 (fun u5 => ((u5 3 0 = (6 : Int32) → (J_X7_readArc_59 u5 sB x2 x3 (2 : Int32) K)) ∧ (¬ u5 3 0 = (6 : Int32) → (J_X7_readArc_59 u5 sB x2 x3 (1 : Int32) K))))))))
def J_X7_readArc_33 (sT : St) (sB : St) (x2 : Int32) (x3 : Int32) (K : (St × St) → Prop) : Prop :=
  J_X7_readArc_34 sT sB x2 x3 (0 : Int32) K
def wp_X7_readArc (sT : St) (sB : St) (p2 : Int32) (K : (St × St) → Prop) : Prop :=
  ∀ y1 : Int32, y1 = sT 4 0 → (((sT 3 0 = (5 : Int32) → ((vp_in p2 8 ∧ ((vp_in (sB 1 p2.toNatClampNeg) 4 ∧ (((sB 0 (sB 1 p2.toNatClampNeg).toNatClampNeg ≤ y1 → (J_X7_readArc_33 sT sB p2 y1 K)) ∧ (¬ sB 0 (sB 1 p2.toNatClampNeg).toNatClampNeg ≤ y1 → (J_X7_readArc_34 sT sB p2 y1 (1 : Int32) K))))))))) ∧ (¬ sT 3 0 = (5 : Int32) → (J_X7_readArc_33 sT sB p2 y1 K))))
def F_X7_readCall_79 (x4 : Int32) (E116 : St × St → Prop) (R79 : Int32 × St × St → Prop) (q14 : Int32 × St × St) : Prop :=
  (((300 : Int32) ≤ q14.1 → (E116 (q14.2.1, q14.2.2))) ∧ (¬ (300 : Int32) ≤ q14.1 → (((q14.2.1 3 0 = (8 : Int32) → (E116 (q14.2.1, q14.2.2))) ∧ (¬ q14.2.1 3 0 = (8 : Int32) → (((0 ≤ q14.2.1 7 0 → (E116 (q14.2.1, q14.2.2))) ∧ (¬ 0 ≤ q14.2.1 7 0 → (wp_X7_readArc q14.2.1 q14.2.2 x4 (fun u18 => ∀ y19 : Int32, y19 = q14.1 + (1 : Int32) → (R79 (y19, u18.1, u18.2))))))))))))
def J_X7_readCall_53 (sT : St) (sB : St) (x2 : Int32) (x3 : Int32) (t1 : Int32) (K : (St × St) → Prop) : Prop :=
  wp_X7_stands sT t1 (fun r9 u9 => ((r9 = 0 → (K (u9, sB))) ∧ (¬ r9 = 0 → (wp_X7_advance u9 (fun u11 => ∀ y12 : Int32, y12 = sB 4 0 → (wp_X1_add sB x2 x3 (fun u13 => Lp (F_X7_readCall_79 y12 (fun q20 => ((0 ≤ q20.1 7 0 → (K (q20.1, q20.2))) ∧ (¬ 0 ≤ q20.1 7 0 → (wp_X7_advance q20.1 (fun u22 => K (u22, q20.2))))))) ((0 : Int32), u11, u13))))))))
def J_X7_readCall_23 (sT : St) (sB : St) (x2 : Int32) (t1 : Int32) (K : (St × St) → Prop) : Prop :=
  wp_X7_stands sT t1 (fun r4 u4 => ((r4 = 0 → (K (u4, sB))) ∧ (¬ r4 = 0 → (wp_X7_advance u4 (fun u6 => ∀ y7 : Int32, y7 = u6 4 0 → (((u6 3 0 = (4 : Int32) → (J_X7_readCall_53 u6 sB x2 y7 (1 : Int32) K)) ∧ (¬ u6 3 0 = (4 : Int32) → (J_X7_readCall_53 u6 sB x2 y7 (0 : Int32) K)))))))))
def wp_X7_readCall (sT : St) (sB : St) (K : (St × St) → Prop) : Prop :=
  wp_X7_advance sT (fun u1 => ∀ y2 : Int32, y2 = u1 4 0 → (((u1 3 0 = (4 : Int32) → (J_X7_readCall_23 u1 sB y2 (1 : Int32) K)) ∧ (¬ u1 3 0 = (4 : Int32) → (J_X7_readCall_23 u1 sB y2 (0 : Int32) K)))))
def J_X7_readInto_70 (sT : St) (sB : St) (x2 : Int32) (R25 : Int32 × St × St → Prop) : Prop :=
  ((sT 3 0 = (3 : Int32) → ((((8 : Int32) ≤ sB 4 0 → (∀ z15 : St, z15 = us sT 7 (sT 2 0) → (∀ y16 : Int32, y16 = x2 + (1 : Int32) → (R25 (y16, z15, sB))))) ∧ (¬ (8 : Int32) ≤ sB 4 0 → (wp_X7_readCall sT sB (fun u17 => ∀ y18 : Int32, y18 = x2 + (1 : Int32) → (R25 (y18, u17.1, u17.2)))))))) ∧ (¬ sT 3 0 = (3 : Int32) → (∀ z12 : St, z12 = us sT 7 (sT 2 0) → (∀ y13 : Int32, y13 = x2 + (1 : Int32) → (R25 (y13, z12, sB))))))
def F_X7_readInto_25 (E109 : Int32 × St × St → Prop) (R25 : Int32 × St × St → Prop) (q6 : Int32 × St × St) : Prop :=
  (((300 : Int32) ≤ q6.1 → (E109 (q6.1, q6.2.1, q6.2.2))) ∧ (¬ (300 : Int32) ≤ q6.1 → (((q6.2.1 3 0 = (1 : Int32) → (E109 (q6.1, q6.2.1, q6.2.2))) ∧ (¬ q6.2.1 3 0 = (1 : Int32) → (((0 ≤ q6.2.1 7 0 → (E109 (q6.1, q6.2.1, q6.2.2))) ∧ (¬ 0 ≤ q6.2.1 7 0 → (((q6.2.1 3 0 = (2 : Int32) → (((q6.2.2 4 0 = 0 → (wp_X7_readAct q6.2.1 q6.2.2 (fun u20 => ∀ y21 : Int32, y21 = q6.1 + (1 : Int32) → (R25 (y21, u20.1, u20.2))))) ∧ (¬ q6.2.2 4 0 = 0 → (J_X7_readInto_70 q6.2.1 q6.2.2 q6.1 R25))))) ∧ (¬ q6.2.1 3 0 = (2 : Int32) → (J_X7_readInto_70 q6.2.1 q6.2.2 q6.1 R25))))))))))))
def J_X7_readInto_109 (sT : St) (sB : St) (x2 : Int32) (K : Int32 → (St × St) → Prop) : Prop :=
  ((0 ≤ sT 7 0 → (K ((-10 : Int32) - sT 7 0) (sT, sB))) ∧ (¬ 0 ≤ sT 7 0 → (K x2 (sT, sB))))
def wp_X7_readInto (sT : St) (sB : St) (K : Int32 → (St × St) → Prop) : Prop :=
  wp_X1_wipe sB (fun u1 => ∀ z2 : St, z2 = us sT 6 (0 : Int32) → (∀ z3 : St, z3 = us z2 7 (-1 : Int32) → (∀ z4 : St, z4 = us z3 5 (0 : Int32) → (wp_X7_advance z4 (fun u5 => Lp (F_X7_readInto_25 (fun q22 => J_X7_readInto_109 q22.2.1 q22.2.2 q22.1 K)) ((0 : Int32), u5, u1))))))
def wp_X8_ofCall (sW : Int64) (sB : St) (p2 : Int32) (K : Int32 → Int64 → Prop) : Prop :=
  (vp_in p2 8 ∧ (wp_X0_howMany (sB 3 p2.toNatClampNeg) (1 : Int32) (fun r1 => K r1 (sW + (1 : Int64)))))
def wp_X8_ofSelf (sW : Int64) (sB : St) (p2 : Int32) (K : Int32 → Int64 → Prop) : Prop :=
  wp_X8_ofCall (sW + (10 : Int64)) sB p2 (fun r1 u1 => (vp_in p2 8 ∧ (wp_X0_howMany (sB 3 p2.toNatClampNeg) (2 : Int32) (fun r2 => K (r1 + r2) u1))))
def wp_X8_ofOther (sW : Int64) (sB : St) (p2 : Int32) (K : Int32 → Int64 → Prop) : Prop :=
  wp_X8_ofCall (sW + (100 : Int64)) sB p2 (fun r1 u1 => K (r1 * (2 : Int32)) u1)
def wp_X8_ofPlain (sW : Int64) (sB : St) (p2 : Int32) (K : Int32 → Int64 → Prop) : Prop :=
  wp_X8_ofSelf (sW + (1000 : Int64)) sB p2 (fun r1 u1 => (vp_in p2 8 ∧ (wp_X0_howManyToThemselves (sB 3 p2.toNatClampNeg) (fun r2 => K (r1 - r2) u1))))
def wp_X8_ofFar (sW : Int64) (sB : St) (p2 : Int32) (K : Int32 → Int64 → Prop) : Prop :=
  wp_X8_ofOther (sW + (10000 : Int64)) sB p2 (fun r1 u1 => (vp_in p2 8 ∧ ((vp_in (sB 2 p2.toNatClampNeg) 4 ∧ (K (r1 + sB 0 (sB 2 p2.toNatClampNeg).toNatClampNeg) u1)))))
def wp_X9_type (sX : St) (sT : St) (sB : St) (sD : St) (sR : St) (sK : St) (sM : St) (sJ : St) (sV : St) (sW : Int64) (p1 : Int64) (p2 : Int32) (K : Int32 → St → Prop) : Prop :=
  ((p2 < (1 : Int32) → (K (-1 : Int32) sT)) ∧ (¬ p2 < (1 : Int32) → (((p2 ≤ (8 : Int32) → (wp_X7_take sT p1 p2 (fun r3 u3 => ((r3 = 0 → (K (-3 : Int32) u3)) ∧ (¬ r3 = 0 → (K (u3 1 0) u3)))))) ∧ (¬ p2 ≤ (8 : Int32) → (K (-1 : Int32) sT))))))
def wp_X9_clear (sX : St) (sT : St) (sB : St) (sD : St) (sR : St) (sK : St) (sM : St) (sJ : St) (sV : St) (sW : Int64) (K : Int32 → St → Prop) : Prop :=
  wp_X7_empty sT (fun r1 u1 => K r1 u1)
def wp_X9_forgetWhatFollows (sX : St) (sT : St) (sB : St) (sD : St) (sR : St) (sK : St) (sM : St) (sJ : St) (sV : St) (sW : Int64) (K : (St × St) → Prop) : Prop :=
  ∀ z1 : St, z1 = us sX 8 (0 : Int32) → (wp_X4_forget sM sJ (fun u2 => K (z1, u2)))
def wp_X9_read (sX : St) (sT : St) (sB : St) (sD : St) (sR : St) (sK : St) (sM : St) (sJ : St) (sV : St) (sW : Int64) (K : Int32 → (St × St × St × St × St × St) → Prop) : Prop :=
  wp_X7_readInto sT sD (fun r1 u1 => ((r1 < 0 → (K r1 (sX, u1.1, sB, u1.2, sR, sM))) ∧ (¬ r1 < 0 → (wp_X1_copyFrom sB u1.2 (fun u3 => wp_X5_empty sR (fun r4 u4 => wp_X7_empty u1.1 (fun r5 u5 => wp_X9_forgetWhatFollows sX u5 u3 u1.2 u4 sK sM sJ sV sW (fun u6 => K r1 (u6.1, u5, u3, u1.2, u4, u6.2)))))))))
def wp_X9_isAct (p1 : Int32) (K : Int32 → Prop) : Prop :=
  ((p1 < 0 → (K (0 : Int32))) ∧ (¬ p1 < 0 → ((((4 : Int32) ≤ p1 → (K (0 : Int32))) ∧ (¬ (4 : Int32) ≤ p1 → (K (1 : Int32)))))))
def wp_X9_places (sX : St) (sT : St) (sB : St) (sD : St) (sR : St) (sK : St) (sM : St) (sJ : St) (sV : St) (sW : Int64) (p1 : Int32) (K : Int32 → Prop) : Prop :=
  wp_X9_isAct p1 (fun r1 => ((r1 = 0 → (K (-1 : Int32))) ∧ (¬ r1 = 0 → ((vp_in p1 4 ∧ (K (sB 0 p1.toNatClampNeg)))))))
def wp_X9_call (sX : St) (sT : St) (sB : St) (sD : St) (sR : St) (sK : St) (sM : St) (sJ : St) (sV : St) (sW : Int64) (p1 : Int32) (p2 : Int32) (K : Int32 → Prop) : Prop :=
  wp_X1_hasCall sB p1 (fun r1 => ((r1 = 0 → (K (-1 : Int32))) ∧ (¬ r1 = 0 → (((p2 = (0 : Int32) → ((vp_in p1 8 ∧ (K (sB 1 p1.toNatClampNeg))))) ∧ (¬ p2 = (0 : Int32) → ((p2 = (1 : Int32) → ((vp_in p1 8 ∧ (K (sB 2 p1.toNatClampNeg))))) ∧ (¬ p2 = (1 : Int32) → ((p2 = (2 : Int32) → ((vp_in p1 8 ∧ (wp_X0_toNumber (sB 3 p1.toNatClampNeg) (fun r6 => K r6))))) ∧ (¬ p2 = (2 : Int32) → (K (-1 : Int32))))))))))))
def wp_X9_arc (sX : St) (sT : St) (sB : St) (sD : St) (sR : St) (sK : St) (sM : St) (sJ : St) (sV : St) (sW : Int64) (p1 : Int32) (p2 : Int32) (p3 : Int32) (K : Int32 → Prop) : Prop :=
  wp_X1_hasPair sB p1 p2 p3 (fun r1 => ((r1 = 0 → (K (-1 : Int32))) ∧ (¬ r1 = 0 → ((vp_in p1 8 ∧ (wp_X0_at (sB 3 p1.toNatClampNeg) p2 p3 (fun r3 => K r3)))))))
def wp_X9_put (sX : St) (sT : St) (sB : St) (sD : St) (sR : St) (sK : St) (sM : St) (sJ : St) (sV : St) (sW : Int64) (p1 : Int32) (p2 : Int32) (p3 : Int32) (p4 : Int32) (K : Int32 → (St × St × St) → Prop) : Prop :=
  wp_X1_hasPair sB p1 p2 p3 (fun r1 => ((r1 = 0 → (K (-1 : Int32) (sX, sB, sM))) ∧ (¬ r1 = 0 → (((p4 < 0 → (K (-1 : Int32) (sX, sB, sM))) ∧ (¬ p4 < 0 → (((p4 ≤ (2 : Int32) → ((vp_in p1 8 ∧ (wp_X0_at (sB 3 p1.toNatClampNeg) p2 p3 (fun r5 => (vp_in p1 8 ∧ (wp_X0_with (sB 3 p1.toNatClampNeg) p2 p3 p4 (fun r6 => (vp_in p1 8 ∧ (∀ z7 : St, z7 = ua sB 3 p1 r6 → (wp_X9_forgetWhatFollows sX sT z7 sD sR sK sM sJ sV sW (fun u8 => K r5 (u8.1, z7, u8.2))))))))))))) ∧ (¬ p4 ≤ (2 : Int32) → (K (-1 : Int32) (sX, sB, sM)))))))))))
def wp_X9_isLarge (sX : St) (sT : St) (sB : St) (sD : St) (sR : St) (sK : St) (sM : St) (sJ : St) (sV : St) (sW : Int64) (K : Int32 → (St × St) → Prop) : Prop :=
  ((sX 8 0 = 0 → (wp_X2_grow sK sB (0 : Int32) (0 : Int32) (fun u2 => ∀ z3 : St, z3 = us sX 8 (1 : Int32) → ((zb (u2 8 0) ∧ K (u2 8 0) (z3, u2)))))) ∧ (¬ sX 8 0 = 0 → ((zb (sK 8 0) ∧ K (sK 8 0) (sX, sK)))))
def wp_X9_graphs (sX : St) (sT : St) (sB : St) (sD : St) (sR : St) (sK : St) (sM : St) (sJ : St) (sV : St) (sW : Int64) (K : Int32 → (St × St) → Prop) : Prop :=
  wp_X9_isLarge sX sT sB sD sR sK sM sJ sV sW (fun r1 u1 => ((r1 = 0 → (K (u1.2 7 0) (u1.1, u1.2))) ∧ (¬ r1 = 0 → (K (-2 : Int32) (u1.1, u1.2)))))
def wp_X9_graph (sX : St) (sT : St) (sB : St) (sD : St) (sR : St) (sK : St) (sM : St) (sJ : St) (sV : St) (sW : Int64) (p1 : Int32) (p2 : Int32) (K : Int32 → (St × St) → Prop) : Prop :=
  ((p1 < 0 → (K (-1 : Int32) (sX, sK))) ∧ (¬ p1 < 0 → (((p2 < 0 → (K (-1 : Int32) (sX, sK))) ∧ (¬ p2 < 0 → (((p2 ≤ (4 : Int32) → (wp_X9_isLarge sX sT sB sD sR sK sM sJ sV sW (fun r4 u4 => ((r4 = 0 → (((p1 < u4.2 7 0 → (wp_X2_keyInOrder u4.2 p1 (fun r7 u7 => ((p2 = (0 : Int32) → (wp_X3_from r7 (fun r9 => K r9 (u4.1, u7)))) ∧ (¬ p2 = (0 : Int32) → ((p2 = (1 : Int32) → (wp_X3_to r7 (fun r11 => K r11 (u4.1, u7)))) ∧ (¬ p2 = (1 : Int32) → ((p2 = (2 : Int32) → (wp_X3_arcs r7 (fun r13 => wp_X0_toNumber r13 (fun r14 => K r14 (u4.1, u7))))) ∧ (¬ p2 = (2 : Int32) → ((p2 = (3 : Int32) → (wp_X3_isRound r7 (fun r16 => ((r16 = 0 → (K (0 : Int32) (u4.1, u7))) ∧ (¬ r16 = 0 → (K (1 : Int32) (u4.1, u7))))))) ∧ (¬ p2 = (3 : Int32) → (wp_X3_isBad r7 (fun r18 => ((r18 = 0 → (K (0 : Int32) (u4.1, u7))) ∧ (¬ r18 = 0 → (K (1 : Int32) (u4.1, u7))))))))))))))))) ∧ (¬ p1 < u4.2 7 0 → (K (-1 : Int32) (u4.1, u4.2)))))) ∧ (¬ r4 = 0 → (K (-2 : Int32) (u4.1, u4.2))))))) ∧ (¬ p2 ≤ (4 : Int32) → (K (-1 : Int32) (sX, sK))))))))))
def wp_X9_together (sX : St) (sT : St) (sB : St) (sD : St) (sR : St) (sK : St) (sM : St) (sJ : St) (sV : St) (sW : Int64) (p1 : Int32) (p2 : Int32) (K : Int32 → Prop) : Prop :=
  wp_X0_isNumber p1 (fun r1 => ((r1 = 0 → (K (-1 : Int32))) ∧ (¬ r1 = 0 → (wp_X0_isNumber p2 (fun r3 => ((r3 = 0 → (K (-1 : Int32))) ∧ (¬ r3 = 0 → (wp_X0_fromNumber p1 (fun r5 => wp_X0_fromNumber p2 (fun r6 => wp_X0_join r5 r6 (fun r7 => wp_X0_toNumber r7 (fun r8 => K r8))))))))))))
def J_X9_ends_50 (sX : St) (sK : St) (t0 : Int32) (K : Int32 → (St × St) → Prop) : Prop :=
  ((t0 = 0 → (K (1 : Int32) (sX, sK))) ∧ (¬ t0 = 0 → (K (0 : Int32) (sX, sK))))
def J_X9_ends_14 (sX : St) (sT : St) (sB : St) (sD : St) (sR : St) (sK : St) (sM : St) (sJ : St) (sV : St) (sW : Int64) (x1 : Int32) (K : Int32 → (St × St) → Prop) : Prop :=
  wp_X9_isLarge sX sT sB sD sR sK sM sJ sV sW (fun r2 u2 => ((r2 = 0 → (((x1 = (-1 : Int32) → (J_X9_ends_50 u2.1 u2.2 (u2.2 11 0) K)) ∧ (¬ x1 = (-1 : Int32) → (J_X9_ends_50 u2.1 u2.2 (u2.2 11 0 &&& ((1 : Int32) <<< (x1 &&& 31))) K))))) ∧ (¬ r2 = 0 → (K (-2 : Int32) (u2.1, u2.2)))))
def wp_X9_ends (sX : St) (sT : St) (sB : St) (sD : St) (sR : St) (sK : St) (sM : St) (sJ : St) (sV : St) (sW : Int64) (p1 : Int32) (K : Int32 → (St × St) → Prop) : Prop :=
  ((p1 = (-1 : Int32) → (J_X9_ends_14 sX sT sB sD sR sK sM sJ sV sW p1 K)) ∧ (¬ p1 = (-1 : Int32) → (wp_X9_isAct p1 (fun r6 => ((r6 = 0 → (K (-1 : Int32) (sX, sK))) ∧ (¬ r6 = 0 → (J_X9_ends_14 sX sT sB sD sR sK sM sJ sV sW p1 K)))))))
def wp_X9_shortest (sX : St) (sT : St) (sB : St) (sD : St) (sR : St) (sK : St) (sM : St) (sJ : St) (sV : St) (sW : Int64) (p1 : Int32) (K : Int32 → (St × St) → Prop) : Prop :=
  (((-1 : Int32) ≤ p1 → (wp_X9_isLarge sX sT sB sD sR sK sM sJ sV sW (fun r2 u2 => ((r2 = 0 → (wp_X2_wayLength u2.2 (u2.2 10 0) (fun r4 => ((r4 = 0 → (K (-9 : Int32) (u2.1, u2.2))) ∧ (¬ r4 = 0 → (((r4 ≤ (8 : Int32) → (((p1 = (-1 : Int32) → (K r4 (u2.1, u2.2))) ∧ (¬ p1 = (-1 : Int32) → (((r4 ≤ p1 → (K (-1 : Int32) (u2.1, u2.2))) ∧ (¬ r4 ≤ p1 → (wp_X2_callOnWay u2.2 (u2.2 10 0) p1 (fun r9 => K r9 (u2.1, u2.2)))))))))) ∧ (¬ r4 ≤ (8 : Int32) → (K (-9 : Int32) (u2.1, u2.2)))))))))) ∧ (¬ r2 = 0 → (K (-2 : Int32) (u2.1, u2.2))))))) ∧ (¬ (-1 : Int32) ≤ p1 → (K (-1 : Int32) (sX, sK))))
def wp_X9_go (sX : St) (sT : St) (sB : St) (sD : St) (sR : St) (sK : St) (sM : St) (sJ : St) (sV : St) (sW : Int64) (p1 : Int32) (K : Int32 → St → Prop) : Prop :=
  wp_X1_hasCall sB p1 (fun r1 => ((r1 = 0 → (K (-1 : Int32) sR)) ∧ (¬ r1 = 0 → (wp_X5_goesOnBy sR sB p1 (fun r3 => ((r3 = 0 → (K (-2 : Int32) sR)) ∧ (¬ r3 = 0 → (wp_X5_take sR p1 (fun r5 u5 => ((r5 = 0 → (K (-3 : Int32) u5)) ∧ (¬ r5 = 0 → (K (u5 1 0) u5))))))))))))
def wp_X9_anew (sX : St) (sT : St) (sB : St) (sD : St) (sR : St) (sK : St) (sM : St) (sJ : St) (sV : St) (sW : Int64) (K : Int32 → St → Prop) : Prop :=
  wp_X5_empty sR (fun r1 u1 => K r1 u1)
def wp_X9_trip (sX : St) (sT : St) (sB : St) (sD : St) (sR : St) (sK : St) (sM : St) (sJ : St) (sV : St) (sW : Int64) (p1 : Int32) (K : Int32 → Prop) : Prop :=
  ((p1 < 0 → (K (-1 : Int32))) ∧ (¬ p1 < 0 → (((p1 ≤ (2 : Int32) → (wp_X5_comesBack sR sB (fun r3 => ((r3 = 0 → (K (-2 : Int32))) ∧ (¬ r3 = 0 → (wp_X5_arcsOfAll sR sB (fun r5 => ((p1 = (0 : Int32) → (wp_X0_toNumber r5 (fun r7 => K r7))) ∧ (¬ p1 = (0 : Int32) → ((p1 = (1 : Int32) → (wp_X0_threads r5 (fun r9 => K r9))) ∧ (¬ p1 = (1 : Int32) → (wp_X0_falls r5 (fun r10 => ((r10 = 0 → (K (0 : Int32))) ∧ (¬ r10 = 0 → (K (1 : Int32))))))))))))))))) ∧ (¬ p1 ≤ (2 : Int32) → (K (-1 : Int32)))))))
def F_X9_isOrderOf_2 (x0 : Int32) (x1 : Int32) (K : Int32 → Prop) (R2 : Int32 → Prop) (q1 : Int32) : Prop :=
  (((3 : Int32) ≤ q1 → (K (1 : Int32))) ∧ (¬ (3 : Int32) ≤ q1 → (((((x0 >>> (((2 : Int32) * q1) &&& 31)) &&& (3 : Int32)) ≤ x1 → (∀ y4 : Int32, y4 = q1 + (1 : Int32) → (R2 y4))) ∧ (¬ ((x0 >>> (((2 : Int32) * q1) &&& 31)) &&& (3 : Int32)) ≤ x1 → (K (0 : Int32)))))))
def wp_X9_isOrderOf (p1 : Int32) (p2 : Int32) (K : Int32 → Prop) : Prop :=
  Lp (F_X9_isOrderOf_2 p1 p2 K) (0 : Int32)
def F_X9_slow_21 (sX : St) (sB : St) (sK : St) (x1 : Int32) (K : Int32 → (St × St) → Prop) (R21 : Int32 → Prop) (q5 : Int32) : Prop :=
  (((16 : Int32) ≤ q5 → (K (-9 : Int32) (sX, sK))) ∧ (¬ (16 : Int32) ≤ q5 → ((vp_in q5 16 ∧ ((vp_in x1 4 ∧ (wp_X9_isOrderOf (ORD q5.toNatClampNeg) (sB 0 x1.toNatClampNeg) (fun r7 => ((r7 = 0 → (∀ y9 : Int32, y9 = q5 + (1 : Int32) → (R21 y9))) ∧ (¬ r7 = 0 → ((vp_in q5 16 ∧ (wp_X2_fallsBy sK (ORD q5.toNatClampNeg) x1 (fun r10 => ((r10 = 0 → (∀ y12 : Int32, y12 = q5 + (1 : Int32) → (R21 y12))) ∧ (¬ r10 = 0 → ((vp_in q5 16 ∧ (K (ORD q5.toNatClampNeg) (sX, sK))))))))))))))))))))
def wp_X9_slow (sX : St) (sT : St) (sB : St) (sD : St) (sR : St) (sK : St) (sM : St) (sJ : St) (sV : St) (sW : Int64) (p1 : Int32) (K : Int32 → (St × St) → Prop) : Prop :=
  wp_X9_isAct p1 (fun r1 => ((r1 = 0 → (K (-1 : Int32) (sX, sK))) ∧ (¬ r1 = 0 → (wp_X9_isLarge sX sT sB sD sR sK sM sJ sV sW (fun r3 u3 => ((r3 = 0 → (Lp (F_X9_slow_21 u3.1 sB u3.2 p1 K) (0 : Int32))) ∧ (¬ r3 = 0 → (K (-2 : Int32) (u3.1, u3.2)))))))))
def wp_X9_mended (sX : St) (sT : St) (sB : St) (sD : St) (sR : St) (sK : St) (sM : St) (sJ : St) (sV : St) (sW : Int64) (p1 : Int32) (K : Int32 → (St × St × St × St) → Prop) : Prop :=
  ((p1 < 0 → (K (-1 : Int32) (sX, sK, sM, sJ))) ∧ (¬ p1 < 0 → (((p1 ≤ (1 : Int32) → (wp_X9_isLarge sX sT sB sD sR sK sM sJ sV sW (fun r3 u3 => ((r3 = 0 → (wp_X4_leastSet sM sJ sB (fun r5 u5 => ((p1 = 0 → (wp_J6_bitCount_0f7a4 r5 (fun r7 => K r7 (u3.1, u3.2, u5.1, u5.2)))) ∧ (¬ p1 = 0 → (K r5 (u3.1, u3.2, u5.1, u5.2))))))) ∧ (¬ r3 = 0 → (K (-2 : Int32) (u3.1, u3.2, sM, sJ))))))) ∧ (¬ p1 ≤ (1 : Int32) → (K (-1 : Int32) (sX, sK, sM, sJ)))))))
def wp_X9_needed (sX : St) (sT : St) (sB : St) (sD : St) (sR : St) (sK : St) (sM : St) (sJ : St) (sV : St) (sW : Int64) (p1 : Int32) (K : Int32 → (St × St × St × St × St) → Prop) : Prop :=
  (((-1 : Int32) ≤ p1 → (wp_X9_isLarge sX sT sB sD sR sK sM sJ sV sW (fun r2 u2 => ((r2 = 0 → (((u2.2 11 0 = 0 → (wp_X4_findsNeeded sM sJ sB (fun r5 u5 => ((r5 = 0 → (K (-2 : Int32) (u2.1, u5.2.2, u2.2, u5.1, u5.2.1))) ∧ (¬ r5 = 0 → (((p1 = (-1 : Int32) → (K (u5.1 5 0) (u2.1, u5.2.2, u2.2, u5.1, u5.2.1))) ∧ (¬ p1 = (-1 : Int32) → (wp_X4_neededAt u5.1 u5.2.1 p1 (fun r8 => K r8 (u2.1, u5.2.2, u2.2, u5.1, u5.2.1))))))))))) ∧ (¬ u2.2 11 0 = 0 → (K (-2 : Int32) (u2.1, sB, u2.2, sM, sJ)))))) ∧ (¬ r2 = 0 → (K (-2 : Int32) (u2.1, sB, u2.2, sM, sJ))))))) ∧ (¬ (-1 : Int32) ≤ p1 → (K (-1 : Int32) (sX, sB, sK, sM, sJ))))
def wp_X9_most (sX : St) (sT : St) (sB : St) (sD : St) (sR : St) (sK : St) (sM : St) (sJ : St) (sV : St) (sW : Int64) (p1 : Int32) (K : Int32 → St → Prop) : Prop :=
  ((p1 < 0 → (K (-1 : Int32) sV)) ∧ (¬ p1 < 0 → (((p1 ≤ (3 : Int32) → (∀ y3 : Int32, y3 = sV 0 0 → (∀ z4 : St, z4 = us sV 0 p1 → (K y3 z4)))) ∧ (¬ p1 ≤ (3 : Int32) → (K (-1 : Int32) sV))))))
def wp_X9_longest (sX : St) (sT : St) (sB : St) (sD : St) (sR : St) (sK : St) (sM : St) (sJ : St) (sV : St) (sW : Int64) (p1 : Int32) (p2 : Int32) (p3 : Int32) (p4 : Int32) (K : Int32 → St → Prop) : Prop :=
  wp_X9_isAct p1 (fun r1 => ((r1 = 0 → (K (-1 : Int32) sV)) ∧ (¬ r1 = 0 → (wp_X6_stateOf sV sB p1 p2 p3 p4 (fun r3 => ((0 ≤ r3 → (wp_X6_longestFrom sV sB r3 (fun r5 u5 => K r5 u5))) ∧ (¬ 0 ≤ r3 → (K (-1 : Int32) sV))))))))
def wp_X9_next (sX : St) (sT : St) (sB : St) (sD : St) (sR : St) (sK : St) (sM : St) (sJ : St) (sV : St) (sW : Int64) (p1 : Int32) (p2 : Int32) (p3 : Int32) (p4 : Int32) (K : Int32 → St → Prop) : Prop :=
  wp_X9_isAct p1 (fun r1 => ((r1 = 0 → (K (-1 : Int32) sV)) ∧ (¬ r1 = 0 → (wp_X6_stateOf sV sB p1 p2 p3 p4 (fun r3 => ((0 ≤ r3 → (wp_X6_statesAfter sV sB r3 (fun r5 u5 => K r5 u5))) ∧ (¬ 0 ≤ r3 → (K (-1 : Int32) sV))))))))
def wp_X9_weight (sX : St) (sT : St) (sB : St) (sD : St) (sR : St) (sK : St) (sM : St) (sJ : St) (sV : St) (sW : Int64) (p1 : Int32) (p2 : Int32) (K : Int32 → Int64 → Prop) : Prop :=
  wp_X1_hasCall sB p2 (fun r1 => ((r1 = 0 → (K (-1 : Int32) sW)) ∧ (¬ r1 = 0 → (((p1 = (0 : Int32) → (wp_X8_ofCall sW sB p2 (fun r4 u4 => K r4 u4))) ∧ (¬ p1 = (0 : Int32) → ((p1 = (1 : Int32) → (wp_X8_ofSelf sW sB p2 (fun r6 u6 => K r6 u6))) ∧ (¬ p1 = (1 : Int32) → ((p1 = (2 : Int32) → (wp_X8_ofOther sW sB p2 (fun r8 u8 => K r8 u8))) ∧ (¬ p1 = (2 : Int32) → ((p1 = (3 : Int32) → (wp_X8_ofPlain sW sB p2 (fun r10 u10 => K r10 u10))) ∧ (¬ p1 = (3 : Int32) → ((p1 = (4 : Int32) → (wp_X8_ofFar sW sB p2 (fun r12 u12 => K r12 u12))) ∧ (¬ p1 = (4 : Int32) → (K (-1 : Int32) sW)))))))))))))))
def wp_X9_count (sX : St) (sT : St) (sB : St) (sD : St) (sR : St) (sK : St) (sM : St) (sJ : St) (sV : St) (sW : Int64) (p1 : Int32) (K : Int32 → Prop) : Prop :=
  ((p1 = (0 : Int32) → (K (sB 4 0))) ∧ (¬ p1 = (0 : Int32) → ((p1 = (1 : Int32) → (wp_X1_placesOfAll sB (fun r3 => K r3))) ∧ (¬ p1 = (1 : Int32) → ((p1 = (2 : Int32) → (K (sR 1 0))) ∧ (¬ p1 = (2 : Int32) → ((p1 = (3 : Int32) → (wp_X1_arcsOfAll sB (fun r6 => K r6))) ∧ (¬ p1 = (3 : Int32) → ((p1 = (4 : Int32) → (K (sT 1 0))) ∧ (¬ p1 = (4 : Int32) → ((p1 = (5 : Int32) → (K (sV 0 0))) ∧ (¬ p1 = (5 : Int32) → (K (-1 : Int32))))))))))))))
def wp_X9_trace (sX : St) (sT : St) (sB : St) (sD : St) (sR : St) (sK : St) (sM : St) (sJ : St) (sV : St) (sW : Int64) (K : Int64 → Prop) : Prop :=
  K sW
def wp_X10_in (p1 : Int64) (p2 : Int64) (p3 : Int64) (K : Int32 → Prop) : Prop :=
  ((lg_cmp p1 p2 < 0 → (K (0 : Int32))) ∧ (¬ lg_cmp p1 p2 < 0 → (((0 < lg_cmp p1 p3 → (K (0 : Int32))) ∧ (¬ 0 < lg_cmp p1 p3 → (K (1 : Int32)))))))
def F_X10_type_34 (x1 : Int64) (K : Int32 → St → Prop) (R34 : Int32 × St → Prop) (q5 : Int32 × St) : Prop :=
  ((q5.1 < 0 → (K (q5.2 0 0) q5.2)) ∧ (¬ q5.1 < 0 → ((vp_in (q5.2 0 0) 300 ∧ (∀ z7 : St, z7 = ua q5.2 1 (q5.2 0 0) (((x1 >>> (((8 : Int32) * q5.1).toInt64 &&& 63)) &&& (255 : Int64)).toInt32) → (∀ z8 : St, z8 = us z7 0 (z7 0 0 + (1 : Int32)) → (∀ y9 : Int32, y9 = q5.1 + (-1 : Int32) → (R34 (y9, z8)))))))))
def wp_X10_type (sS : St) (sL : Int64) (p1 : Int64) (p2 : Int32) (K : Int32 → St → Prop) : Prop :=
  wp_X10_in p2.toInt64 (1 : Int64) (8 : Int64) (fun r1 => ((r1 = 0 → (K (-1 : Int32) sS)) ∧ (¬ r1 = 0 → ((((sS 0 0 + p2) ≤ (300 : Int32) → (∀ y4 : Int32, y4 = (p2 - (1 : Int32)) → (Lp (F_X10_type_34 p1 K) (y4, sS)))) ∧ (¬ (sS 0 0 + p2) ≤ (300 : Int32) → (K (-3 : Int32) sS)))))))
def wp_X10_clear (sS : St) (sL : Int64) (K : Int32 → St → Prop) : Prop :=
  ∀ y1 : Int32, y1 = sS 0 0 → (∀ z2 : St, z2 = us sS 0 (0 : Int32) → (K y1 z2))
def wp_X10_byteAt (sS : St) (sL : Int64) (p1 : Int32) (K : Int32 → Prop) : Prop :=
  ((sS 0 0 ≤ p1 → (K (0 : Int32))) ∧ (¬ sS 0 0 ≤ p1 → ((vp_in p1 300 ∧ (K (sS 1 p1.toNatClampNeg))))))
def J_X10_isWord_46 (sS : St) (sL : Int64) (x1 : Int32) (x5 : Int32) (t0 : Int32) (K : Int32 → Prop) : Prop :=
  ((t0 = 0 → (K (0 : Int32))) ∧ (¬ t0 = 0 → (((x5 = 0 → (((x1 = (sS 13 0 + (3 : Int32)) → (K (1 : Int32))) ∧ (¬ x1 = (sS 13 0 + (3 : Int32)) → (K (0 : Int32)))))) ∧ (¬ x5 = 0 → (wp_X10_byteAt sS sL (sS 13 0 + (3 : Int32)) (fun r5 => ((r5 = x5 → (((x1 = (sS 13 0 + (4 : Int32)) → (K (1 : Int32))) ∧ (¬ x1 = (sS 13 0 + (4 : Int32)) → (K (0 : Int32)))))) ∧ (¬ r5 = x5 → (K (0 : Int32)))))))))))
def J_X10_isWord_45 (sS : St) (sL : Int64) (x1 : Int32) (x5 : Int32) (K : Int32 → Prop) : Prop :=
  J_X10_isWord_46 sS sL x1 x5 (0 : Int32) K
def wp_X10_isWord (sS : St) (sL : Int64) (p1 : Int32) (p2 : Int32) (p3 : Int32) (p4 : Int32) (p5 : Int32) (K : Int32 → Prop) : Prop :=
  wp_X10_byteAt sS sL (sS 13 0) (fun r1 => ((r1 = p2 → (wp_X10_byteAt sS sL (sS 13 0 + (1 : Int32)) (fun r9 => ((r9 = p3 → (wp_X10_byteAt sS sL (sS 13 0 + (2 : Int32)) (fun r11 => ((r11 = p4 → (J_X10_isWord_46 sS sL p1 p5 (1 : Int32) K)) ∧ (¬ r11 = p4 → (J_X10_isWord_45 sS sL p1 p5 K)))))) ∧ (¬ r9 = p3 → (J_X10_isWord_45 sS sL p1 p5 K)))))) ∧ (¬ r1 = p2 → (J_X10_isWord_45 sS sL p1 p5 K))))
def F_X10_token_0 (sL : Int64) (E26 : St → Prop) (R0 : St → Prop) (q1 : St) : Prop :=
  wp_X10_byteAt q1 sL (q1 12 0) (fun r2 => ((r2 = (32 : Int32) → (∀ z4 : St, z4 = us q1 12 (q1 12 0 + (1 : Int32)) → (R0 z4))) ∧ (¬ r2 = (32 : Int32) → (E26 q1))))
def F_X10_token_168 (sL : Int64) (x1 : Int32) (E216 : St → Prop) (R168 : St → Prop) (q18 : St) : Prop :=
  wp_X10_in x1.toInt64 (97 : Int64) (122 : Int64) (fun r19 => ((r19 = 0 → (E216 q18)) ∧ (¬ r19 = 0 → (wp_X10_byteAt q18 sL (q18 12 0) (fun r21 => wp_X10_in r21.toInt64 (97 : Int64) (122 : Int64) (fun r22 => ((r22 = 0 → (E216 q18)) ∧ (¬ r22 = 0 → (∀ z24 : St, z24 = us q18 12 (q18 12 0 + (1 : Int32)) → (R168 z24))))))))))
def J_X10_token_216 (sS : St) (sL : Int64) (K : Int32 → St → Prop) : Prop :=
  wp_X10_isWord sS sL (sS 12 0) (97 : Int32) (99 : Int32) (116 : Int32) (0 : Int32) (fun r26 => ((r26 = 0 → (wp_X10_isWord sS sL (sS 12 0) (99 : Int32) (97 : Int32) (108 : Int32) (108 : Int32) (fun r28 => ((r28 = 0 → (K (6 : Int32) sS)) ∧ (¬ r28 = 0 → (K (2 : Int32) sS)))))) ∧ (¬ r26 = 0 → (K (1 : Int32) sS))))
def wp_X10_token (sS : St) (sL : Int64) (K : Int32 → St → Prop) : Prop :=
  Lp (F_X10_token_0 sL (fun q5 => ∀ z6 : St, z6 = us q5 13 (q5 12 0) → (((z6 12 0 < z6 0 0 → ((vp_in (z6 12 0) 300 ∧ (∀ y8 : Int32, y8 = z6 1 (z6 12 0).toNatClampNeg → (∀ z9 : St, z9 = us z6 12 (z6 12 0 + (1 : Int32)) → (∀ z10 : St, z10 = us z9 14 y8 → (wp_X10_in y8.toInt64 (65 : Int64) (68 : Int64) (fun r11 => ((r11 = 0 → (((y8 = (62 : Int32) → (K (5 : Int32) z10)) ∧ (¬ y8 = (62 : Int32) → (((y8 = (61 : Int32) → (K (5 : Int32) z10)) ∧ (¬ y8 = (61 : Int32) → (((y8 = (59 : Int32) → (K (5 : Int32) z10)) ∧ (¬ y8 = (59 : Int32) → (wp_X10_in y8.toInt64 (48 : Int64) (57 : Int64) (fun r16 => ((r16 = 0 → (Lp (F_X10_token_168 sL y8 (fun q25 => J_X10_token_216 q25 sL K)) z10)) ∧ (¬ r16 = 0 → (∀ z30 : St, z30 = us z10 14 (y8 - (48 : Int32)) → (wp_X10_byteAt z30 sL (z30 12 0) (fun r31 => wp_X10_in r31.toInt64 (48 : Int64) (57 : Int64) (fun r32 => ((r32 = 0 → (K (4 : Int32) z30)) ∧ (¬ r32 = 0 → (K (6 : Int32) z30))))))))))))))))))))) ∧ (¬ r11 = 0 → (∀ z34 : St, z34 = us z10 14 (y8 - (65 : Int32)) → (K (3 : Int32) z34)))))))))))) ∧ (¬ z6 12 0 < z6 0 0 → (K (0 : Int32) z6)))))) sS
def wp_X10_number (sS : St) (sL : Int64) (p1 : Int32) (K : Int32 → St → Prop) : Prop :=
  wp_X10_token sS sL (fun r1 u1 => ((r1 = (4 : Int32) → (((p1 < u1 14 0 → (K (0 : Int32) u1)) ∧ (¬ p1 < u1 14 0 → (K (1 : Int32) u1))))) ∧ (¬ r1 = (4 : Int32) → (K (0 : Int32) u1))))
def wp_X10_sign (sS : St) (sL : Int64) (p1 : Int32) (K : Int32 → St → Prop) : Prop :=
  wp_X10_token sS sL (fun r1 u1 => ((r1 = (5 : Int32) → (((u1 14 0 = p1 → (K (1 : Int32) u1)) ∧ (¬ u1 14 0 = p1 → (K (0 : Int32) u1))))) ∧ (¬ r1 = (5 : Int32) → (K (0 : Int32) u1))))
def wp_X10_actItem (sS : St) (sL : Int64) (K : Int32 → St → Prop) : Prop :=
  wp_X10_token sS sL (fun r1 u1 => ((r1 = (3 : Int32) → ((vp_in (u1 14 0) 4 ∧ (((u1 16 (u1 14 0).toNatClampNeg = 0 → (∀ y4 : Int32, y4 = u1 14 0 → (wp_X10_number u1 sL (3 : Int32) (fun r5 u5 => ((r5 = 0 → (K (0 : Int32) u5)) ∧ (¬ r5 = 0 → ((vp_in y4 4 ∧ (∀ z7 : St, z7 = ua u5 16 y4 (1 : Int32) → ((vp_in y4 4 ∧ (∀ z8 : St, z8 = ua z7 15 y4 (z7 14 0) → (wp_X10_sign z8 sL (59 : Int32) (fun r9 u9 => (zb r9 ∧ K r9 u9))))))))))))))) ∧ (¬ u1 16 (u1 14 0).toNatClampNeg = 0 → (K (0 : Int32) u1))))))) ∧ (¬ r1 = (3 : Int32) → (K (0 : Int32) u1))))
def F_X10_callItem_52 (x3 : Int32) (E78 : St → Prop) (R52 : Int32 × St → Prop) (q10 : Int32 × St) : Prop :=
  (((9 : Int32) ≤ q10.1 → (E78 q10.2)) ∧ (¬ (9 : Int32) ≤ q10.1 → ((vp_in (((9 : Int32) * x3) + q10.1) 72 ∧ (∀ z12 : St, z12 = ua q10.2 20 (((9 : Int32) * x3) + q10.1) (0 : Int32) → (∀ y13 : Int32, y13 = q10.1 + (1 : Int32) → (R52 (y13, z12))))))))
def J_X10_callItem_215 (sS : St) (sL : Int64) (t1 : Int32) (t2 : Int32) (R94 : Int32 × St → Prop) : Prop :=
  (vp_in t1 72 ∧ (∀ z29 : St, z29 = ua sS 20 t1 t2 → (wp_X10_token z29 sL (fun r30 u30 => R94 (r30, u30)))))
def J_X10_callItem_150 (sS : St) (sL : Int64) (x2 : Int32) (x3 : Int32) (x5 : Int32) (t0 : Int32) (K : Int32 → St → Prop) (R94 : Int32 × St → Prop) : Prop :=
  (vp_in x2 4 ∧ (wp_X10_number sS sL (sS 15 x2.toNatClampNeg - (1 : Int32)) (fun r25 u25 => ((r25 = 0 → (K (0 : Int32) u25)) ∧ (¬ r25 = 0 → (∀ y27 : Int32, y27 = ((((9 : Int32) * x3) + ((3 : Int32) * x5)) + u25 14 0) → ((vp_in y27 72 ∧ (((t0 ≤ u25 20 y27.toNatClampNeg → ((vp_in y27 72 ∧ (J_X10_callItem_215 u25 sL y27 (u25 20 y27.toNatClampNeg) R94)))) ∧ (¬ t0 ≤ u25 20 y27.toNatClampNeg → (J_X10_callItem_215 u25 sL y27 t0 R94))))))))))))
def F_X10_callItem_94 (sL : Int64) (x1 : Int32) (x2 : Int32) (x3 : Int32) (K : Int32 → St → Prop) (E225 : Int32 × St → Prop) (R94 : Int32 × St → Prop) (q17 : Int32 × St) : Prop :=
  ((q17.1 = (4 : Int32) → (∀ y19 : Int32, y19 = q17.2 14 0 → ((vp_in x1 4 ∧ (((q17.2 15 x1.toNatClampNeg ≤ y19 → (K (0 : Int32) q17.2)) ∧ (¬ q17.2 15 x1.toNatClampNeg ≤ y19 → (wp_X10_token q17.2 sL (fun r21 u21 => ((r21 = (5 : Int32) → (((u21 14 0 = (59 : Int32) → (K (0 : Int32) u21)) ∧ (¬ u21 14 0 = (59 : Int32) → (((u21 14 0 = (62 : Int32) → (J_X10_callItem_150 u21 sL x2 x3 y19 (2 : Int32) K R94)) ∧ (¬ u21 14 0 = (62 : Int32) → (J_X10_callItem_150 u21 sL x2 x3 y19 (1 : Int32) K R94)))))))) ∧ (¬ r21 = (5 : Int32) → (K (0 : Int32) u21)))))))))))) ∧ (¬ q17.1 = (4 : Int32) → (E225 (q17.1, q17.2))))
def wp_X10_callItem (sS : St) (sL : Int64) (K : Int32 → St → Prop) : Prop :=
  wp_X10_token sS sL (fun r1 u1 => ((r1 = (3 : Int32) → (∀ y3 : Int32, y3 = u1 14 0 → (wp_X10_token u1 sL (fun r4 u4 => ((r4 = (3 : Int32) → (∀ y6 : Int32, y6 = u4 14 0 → (∀ y7 : Int32, y7 = u4 17 0 → ((vp_in y7 8 ∧ (∀ z8 : St, z8 = ua u4 18 y7 y3 → ((vp_in y7 8 ∧ (∀ z9 : St, z9 = ua z8 19 y7 y6 → (Lp (F_X10_callItem_52 y7 (fun q14 => ∀ z15 : St, z15 = us q14 17 (q14 17 0 + (1 : Int32)) → (wp_X10_token z15 sL (fun r16 u16 => Lp (F_X10_callItem_94 sL y3 y6 y7 K (fun q31 => ((q31.1 = (5 : Int32) → (((q31.2 14 0 = (59 : Int32) → (K (1 : Int32) q31.2)) ∧ (¬ q31.2 14 0 = (59 : Int32) → (K (0 : Int32) q31.2))))) ∧ (¬ q31.1 = (5 : Int32) → (K (0 : Int32) q31.2))))) (r16, u16))))) ((0 : Int32), z9))))))))))) ∧ (¬ r4 = (3 : Int32) → (K (0 : Int32) u4))))))) ∧ (¬ r1 = (3 : Int32) → (K (0 : Int32) u1))))
def F_X10_readAll_17 (E42 : St → Prop) (R17 : Int32 × St → Prop) (q4 : Int32 × St) : Prop :=
  (((4 : Int32) ≤ q4.1 → (E42 q4.2)) ∧ (¬ (4 : Int32) ≤ q4.1 → ((vp_in q4.1 4 ∧ (∀ z6 : St, z6 = ua q4.2 15 q4.1 (0 : Int32) → ((vp_in q4.1 4 ∧ (∀ z7 : St, z7 = ua z6 16 q4.1 (0 : Int32) → (∀ y8 : Int32, y8 = q4.1 + (1 : Int32) → (R17 (y8, z7)))))))))))
def J_X10_readAll_114 (sS : St) (sL : Int64) (R47 : Int32 × St → Prop) : Prop :=
  ∀ z19 : St, z19 = us sS 21 (sS 21 0 + (1 : Int32)) → (wp_X10_token z19 sL (fun r20 u20 => R47 (r20, u20)))
def J_X10_readAll_82 (sS : St) (sL : Int64) (x1 : Int32) (t0 : Int32) (K : Int32 → St → Prop) (R47 : Int32 × St → Prop) : Prop :=
  ((t0 = 0 → (K (sS 13 0) sS)) ∧ (¬ t0 = 0 → (((x1 = (1 : Int32) → (wp_X10_actItem sS sL (fun r21 u21 => ((r21 = 0 → (K (u21 13 0) u21)) ∧ (¬ r21 = 0 → (J_X10_readAll_114 u21 sL R47)))))) ∧ (¬ x1 = (1 : Int32) → (wp_X10_callItem sS sL (fun r17 u17 => ((r17 = 0 → (K (u17 13 0) u17)) ∧ (¬ r17 = 0 → (J_X10_readAll_114 u17 sL R47))))))))))
def J_X10_readAll_81 (sS : St) (sL : Int64) (x1 : Int32) (K : Int32 → St → Prop) (R47 : Int32 × St → Prop) : Prop :=
  J_X10_readAll_82 sS sL x1 (0 : Int32) K R47
def J_X10_readAll_77 (sS : St) (sL : Int64) (x1 : Int32) (K : Int32 → St → Prop) (R47 : Int32 × St → Prop) : Prop :=
  J_X10_readAll_82 sS sL x1 (1 : Int32) K R47
def J_X10_readAll_63 (sS : St) (sL : Int64) (x1 : Int32) (K : Int32 → St → Prop) (R47 : Int32 × St → Prop) : Prop :=
  ((x1 = (2 : Int32) → ((((8 : Int32) ≤ sS 17 0 → (J_X10_readAll_81 sS sL x1 K R47)) ∧ (¬ (8 : Int32) ≤ sS 17 0 → (J_X10_readAll_77 sS sL x1 K R47))))) ∧ (¬ x1 = (2 : Int32) → (J_X10_readAll_81 sS sL x1 K R47)))
def F_X10_readAll_47 (sL : Int64) (K : Int32 → St → Prop) (R47 : Int32 × St → Prop) (q11 : Int32 × St) : Prop :=
  ((q11.1 = 0 → (K (-9 : Int32) q11.2)) ∧ (¬ q11.1 = 0 → (((q11.1 = (1 : Int32) → (((q11.2 17 0 = 0 → (J_X10_readAll_77 q11.2 sL q11.1 K R47)) ∧ (¬ q11.2 17 0 = 0 → (J_X10_readAll_63 q11.2 sL q11.1 K R47))))) ∧ (¬ q11.1 = (1 : Int32) → (J_X10_readAll_63 q11.2 sL q11.1 K R47))))))
def wp_X10_readAll (sS : St) (sL : Int64) (K : Int32 → St → Prop) : Prop :=
  ∀ z1 : St, z1 = us sS 17 (0 : Int32) → (∀ z2 : St, z2 = us z1 21 (0 : Int32) → (∀ z3 : St, z3 = us z2 12 (0 : Int32) → (Lp (F_X10_readAll_17 (fun q9 => wp_X10_token q9 sL (fun r10 u10 => Lp (F_X10_readAll_47 sL K) (r10, u10)))) ((0 : Int32), z3))))
def F_X10_read_18 (E41 : St → Prop) (R18 : Int32 × St → Prop) (q3 : Int32 × St) : Prop :=
  (((4 : Int32) ≤ q3.1 → (E41 q3.2)) ∧ (¬ (4 : Int32) ≤ q3.1 → ((vp_in q3.1 4 ∧ ((vp_in q3.1 4 ∧ (∀ z5 : St, z5 = ua q3.2 2 q3.1 (q3.2 15 q3.1.toNatClampNeg) → (∀ y6 : Int32, y6 = q3.1 + (1 : Int32) → (R18 (y6, z5))))))))))
def F_X10_read_51 (E87 : St → Prop) (R51 : Int32 × St → Prop) (q9 : Int32 × St) : Prop :=
  (((8 : Int32) ≤ q9.1 → (E87 q9.2)) ∧ (¬ (8 : Int32) ≤ q9.1 → ((vp_in q9.1 8 ∧ ((vp_in q9.1 8 ∧ (∀ z11 : St, z11 = ua q9.2 4 q9.1 (q9.2 18 q9.1.toNatClampNeg) → ((vp_in q9.1 8 ∧ ((vp_in q9.1 8 ∧ (∀ z12 : St, z12 = ua z11 5 q9.1 (z11 19 q9.1.toNatClampNeg) → (∀ y13 : Int32, y13 = q9.1 + (1 : Int32) → (R51 (y13, z12)))))))))))))))
def F_X10_read_89 (E113 : St → Prop) (R89 : Int32 × St → Prop) (q15 : Int32 × St) : Prop :=
  (((72 : Int32) ≤ q15.1 → (E113 q15.2)) ∧ (¬ (72 : Int32) ≤ q15.1 → ((vp_in q15.1 72 ∧ ((vp_in q15.1 72 ∧ (∀ z17 : St, z17 = ua q15.2 6 q15.1 (q15.2 20 q15.1.toNatClampNeg) → (∀ y18 : Int32, y18 = q15.1 + (1 : Int32) → (R89 (y18, z17))))))))))
def wp_X10_read (sS : St) (sL : Int64) (K : Int32 → St → Prop) : Prop :=
  wp_X10_readAll sS sL (fun r1 u1 => ((r1 = (-9 : Int32) → (Lp (F_X10_read_18 (fun q7 => ∀ z8 : St, z8 = us q7 3 (q7 17 0) → (Lp (F_X10_read_51 (fun q14 => Lp (F_X10_read_89 (fun q19 => ∀ z20 : St, z20 = us q19 7 (0 : Int32) → (∀ z21 : St, z21 = us z20 0 (0 : Int32) → (K (z21 21 0) z21)))) ((0 : Int32), q14))) ((0 : Int32), z8)))) ((0 : Int32), u1))) ∧ (¬ r1 = (-9 : Int32) → (K ((-10 : Int32) - r1) u1))))
def wp_X10_isAct (p1 : Int32) (K : Int32 → Prop) : Prop :=
  wp_X10_in p1.toInt64 (0 : Int64) (3 : Int64) (fun r1 => (zb r1 ∧ K r1))
def wp_X10_isCall (sS : St) (sL : Int64) (p1 : Int32) (K : Int32 → Prop) : Prop :=
  wp_X10_in p1.toInt64 (0 : Int64) ((sS 3 0 - (1 : Int32)).toInt64) (fun r1 => (zb r1 ∧ K r1))
def wp_X10_places (sS : St) (sL : Int64) (p1 : Int32) (K : Int32 → Prop) : Prop :=
  wp_X10_isAct p1 (fun r1 => ((r1 = 0 → (K (-1 : Int32))) ∧ (¬ r1 = 0 → ((vp_in p1 4 ∧ (K (sS 2 p1.toNatClampNeg)))))))
def F_X10_numberOf_5 (sS : St) (x1 : Int32) (K : Int32 → Prop) (R5 : Int32 × Int32 → Prop) (q1 : Int32 × Int32) : Prop :=
  ((q1.2 < 0 → (K q1.1)) ∧ (¬ q1.2 < 0 → ((vp_in (((9 : Int32) * x1) + q1.2) 72 ∧ (∀ y3 : Int32, y3 = (((3 : Int32) * q1.1) + sS 6 (((9 : Int32) * x1) + q1.2).toNatClampNeg) → (∀ y4 : Int32, y4 = q1.2 + (-1 : Int32) → (R5 (y3, y4))))))))
def wp_X10_numberOf (sS : St) (sL : Int64) (p1 : Int32) (K : Int32 → Prop) : Prop :=
  Lp (F_X10_numberOf_5 sS p1 K) ((0 : Int32), (8 : Int32))
def wp_X10_call (sS : St) (sL : Int64) (p1 : Int32) (p2 : Int32) (K : Int32 → Prop) : Prop :=
  wp_X10_isCall sS sL p1 (fun r1 => ((r1 = 0 → (K (-1 : Int32))) ∧ (¬ r1 = 0 → (wp_X10_in p2.toInt64 (0 : Int64) (2 : Int64) (fun r3 => ((r3 = 0 → (K (-1 : Int32))) ∧ (¬ r3 = 0 → (((p2 = 0 → ((vp_in p1 8 ∧ (K (sS 4 p1.toNatClampNeg))))) ∧ (¬ p2 = 0 → (((p2 = (1 : Int32) → ((vp_in p1 8 ∧ (K (sS 5 p1.toNatClampNeg))))) ∧ (¬ p2 = (1 : Int32) → (wp_X10_numberOf sS sL p1 (fun r7 => K r7)))))))))))))))
def wp_X10_isArc (sS : St) (sL : Int64) (p1 : Int32) (p2 : Int32) (p3 : Int32) (K : Int32 → Prop) : Prop :=
  wp_X10_isCall sS sL p1 (fun r1 => ((r1 = 0 → (K (0 : Int32))) ∧ (¬ r1 = 0 → ((vp_in p1 8 ∧ ((vp_in (sS 4 p1.toNatClampNeg) 4 ∧ (wp_X10_in p2.toInt64 (0 : Int64) ((sS 2 (sS 4 p1.toNatClampNeg).toNatClampNeg - (1 : Int32)).toInt64) (fun r3 => ((r3 = 0 → (K (0 : Int32))) ∧ (¬ r3 = 0 → ((vp_in p1 8 ∧ ((vp_in (sS 5 p1.toNatClampNeg) 4 ∧ (wp_X10_in p3.toInt64 (0 : Int64) ((sS 2 (sS 5 p1.toNatClampNeg).toNatClampNeg - (1 : Int32)).toInt64) (fun r5 => ((r5 = 0 → (K (0 : Int32))) ∧ (¬ r5 = 0 → (K (1 : Int32)))))))))))))))))))))
def wp_X10_arc (sS : St) (sL : Int64) (p1 : Int32) (p2 : Int32) (p3 : Int32) (K : Int32 → Prop) : Prop :=
  wp_X10_isArc sS sL p1 p2 p3 (fun r1 => ((r1 = 0 → (K (-1 : Int32))) ∧ (¬ r1 = 0 → ((vp_in ((((9 : Int32) * p1) + ((3 : Int32) * p2)) + p3) 72 ∧ (K (sS 6 ((((9 : Int32) * p1) + ((3 : Int32) * p2)) + p3).toNatClampNeg)))))))
def wp_X10_put (sS : St) (sL : Int64) (p1 : Int32) (p2 : Int32) (p3 : Int32) (p4 : Int32) (K : Int32 → St → Prop) : Prop :=
  wp_X10_isArc sS sL p1 p2 p3 (fun r1 => ((r1 = 0 → (K (-1 : Int32) sS)) ∧ (¬ r1 = 0 → (wp_X10_in p4.toInt64 (0 : Int64) (2 : Int64) (fun r3 => ((r3 = 0 → (K (-1 : Int32) sS)) ∧ (¬ r3 = 0 → ((vp_in ((((9 : Int32) * p1) + ((3 : Int32) * p2)) + p3) 72 ∧ (∀ y5 : Int32, y5 = sS 6 ((((9 : Int32) * p1) + ((3 : Int32) * p2)) + p3).toNatClampNeg → ((vp_in ((((9 : Int32) * p1) + ((3 : Int32) * p2)) + p3) 72 ∧ (∀ z6 : St, z6 = ua sS 6 ((((9 : Int32) * p1) + ((3 : Int32) * p2)) + p3) p4 → (K y5 z6))))))))))))))
def wp_X10_digit (sS : St) (sL : Int64) (p1 : Int32) (p2 : Int32) (p3 : Int32) (K : Int32 → Prop) : Prop :=
  (vp_in (((3 : Int32) * p2) + p3) 10 ∧ ((¬ (sS 11 (((3 : Int32) * p2) + p3).toNatClampNeg) = 0 ∧ (K ((p1 / sS 11 (((3 : Int32) * p2) + p3).toNatClampNeg) - (p1 / sS 11 (((3 : Int32) * p2) + p3).toNatClampNeg) / (3 : Int32) * (3 : Int32))))))
def J_X10_put2_77 (x5 : Int32) (x6 : Int32) (t0 : Int32) (R17 : Int32 × Int32 → Prop) : Prop :=
  ((t0 ≤ x5 → (∀ y9 : Int32, y9 = x6 + (1 : Int32) → (R17 (x5, y9)))) ∧ (¬ t0 ≤ x5 → (∀ y10 : Int32, y10 = x6 + (1 : Int32) → (R17 (t0, y10)))))
def J_X10_put2_59 (x5 : Int32) (x6 : Int32) (R17 : Int32 × Int32 → Prop) : Prop :=
  J_X10_put2_77 x5 x6 (0 : Int32) R17
def F_X10_put2_17 (sS : St) (sL : Int64) (x1 : Int32) (x2 : Int32) (x4 : Int32) (E101 : Int32 → Prop) (R17 : Int32 × Int32 → Prop) (q3 : Int32 × Int32) : Prop :=
  (((3 : Int32) ≤ q3.2 → (E101 q3.1)) ∧ (¬ (3 : Int32) ≤ q3.2 → (wp_X10_digit sS sL x1 (x4 / (3 : Int32)) q3.2 (fun r5 => wp_X10_digit sS sL x2 q3.2 (x4 - x4 / (3 : Int32) * (3 : Int32)) (fun r6 => ((r5 = 0 → (J_X10_put2_59 q3.1 q3.2 R17)) ∧ (¬ r5 = 0 → (((r6 = 0 → (J_X10_put2_59 q3.1 q3.2 R17)) ∧ (¬ r6 = 0 → ((((r5 + r6) ≤ (2 : Int32) → (J_X10_put2_77 q3.1 q3.2 (1 : Int32) R17)) ∧ (¬ (r5 + r6) ≤ (2 : Int32) → (J_X10_put2_77 q3.1 q3.2 (2 : Int32) R17))))))))))))))
def F_X10_put2_6 (sS : St) (sL : Int64) (x1 : Int32) (x2 : Int32) (K : Int32 → Prop) (R6 : Int32 × Int32 → Prop) (q1 : Int32 × Int32) : Prop :=
  ((q1.2 < 0 → (K q1.1)) ∧ (¬ q1.2 < 0 → (Lp (F_X10_put2_17 sS sL x1 x2 q1.2 (fun q13 => ∀ y14 : Int32, y14 = (((3 : Int32) * q1.1) + q13) → (∀ y15 : Int32, y15 = q1.2 + (-1 : Int32) → (R6 (y14, y15))))) ((0 : Int32), (0 : Int32)))))
def wp_X10_put2 (sS : St) (sL : Int64) (p1 : Int32) (p2 : Int32) (K : Int32 → Prop) : Prop :=
  Lp (F_X10_put2_6 sS sL p1 p2 K) ((0 : Int32), (8 : Int32))
def wp_X10_together (sS : St) (sL : Int64) (p1 : Int32) (p2 : Int32) (K : Int32 → Prop) : Prop :=
  wp_X10_in p1.toInt64 (0 : Int64) (19682 : Int64) (fun r1 => ((r1 = 0 → (K (-1 : Int32))) ∧ (¬ r1 = 0 → (wp_X10_in p2.toInt64 (0 : Int64) (19682 : Int64) (fun r3 => ((r3 = 0 → (K (-1 : Int32))) ∧ (¬ r3 = 0 → (wp_X10_put2 sS sL p1 p2 (fun r5 => K r5)))))))))
def wp_X10_codeOf (p1 : Int32) (p2 : Int32) (p3 : Int32) (K : Int32 → Prop) : Prop :=
  K (((((4 : Int32) * p1) + p2) * (19683 : Int32)) + p3)
def wp_X10_note (sS : St) (sL : Int64) (p1 : Int32) (p2 : Int32) (p3 : Int32) (K : Int32 → St → Prop) : Prop :=
  wp_X10_codeOf p1 p2 p3 (fun r1 => (vp_in r1 314928 ∧ (((sS 27 r1.toNatClampNeg = sS 26 0 → (K (1 : Int32) sS)) ∧ (¬ sS 27 r1.toNatClampNeg = sS 26 0 → (((sS 22 0 = (1000 : Int32) → (K (0 : Int32) sS)) ∧ (¬ sS 22 0 = (1000 : Int32) → ((vp_in r1 314928 ∧ (∀ z4 : St, z4 = ua sS 27 r1 (sS 26 0) → ((vp_in r1 314928 ∧ (∀ z5 : St, z5 = ua z4 28 r1 (z4 22 0) → ((vp_in (z5 22 0) 1000 ∧ (∀ z6 : St, z6 = ua z5 23 (z5 22 0) p1 → ((vp_in (z6 22 0) 1000 ∧ (∀ z7 : St, z7 = ua z6 24 (z6 22 0) p2 → ((vp_in (z7 22 0) 1000 ∧ (∀ z8 : St, z8 = ua z7 25 (z7 22 0) p3 → (∀ z9 : St, z9 = us z8 22 (z8 22 0 + (1 : Int32)) → (K (1 : Int32) z9)))))))))))))))))))))))))
def wp_X10_has (p1 : Int32) (p2 : Int32) (K : Int32 → Prop) : Prop :=
  ((((p1 >>> (p2 &&& 31)) &&& (1 : Int32)) = (1 : Int32) → (K (1 : Int32))) ∧ (¬ ((p1 >>> (p2 &&& 31)) &&& (1 : Int32)) = (1 : Int32) → (K (0 : Int32))))
def F_X10_layGraphs_54 (sL : Int64) (x1 : Int32) (E110 : Int32 × St → Prop) (R54 : Int32 × Int32 × St → Prop) (q4 : Int32 × Int32 × St) : Prop :=
  ((q4.2.2 3 0 ≤ q4.2.1 → (E110 (q4.1, q4.2.2))) ∧ (¬ q4.2.2 3 0 ≤ q4.2.1 → (((q4.1 = 0 → (E110 (q4.1, q4.2.2))) ∧ (¬ q4.1 = 0 → (wp_X10_has x1 q4.2.1 (fun r7 => ((r7 = 0 → ((vp_in q4.2.1 8 ∧ ((vp_in q4.2.1 8 ∧ (wp_X10_numberOf q4.2.2 sL q4.2.1 (fun r10 => wp_X10_note q4.2.2 sL (q4.2.2 4 q4.2.1.toNatClampNeg) (q4.2.2 5 q4.2.1.toNatClampNeg) r10 (fun r11 u11 => ((r11 = 0 → (∀ y13 : Int32, y13 = q4.2.1 + (1 : Int32) → (R54 ((0 : Int32), y13, u11)))) ∧ (¬ r11 = 0 → (∀ y14 : Int32, y14 = q4.2.1 + (1 : Int32) → (R54 ((1 : Int32), y14, u11))))))))))))) ∧ (¬ r7 = 0 → (∀ y9 : Int32, y9 = q4.2.1 + (1 : Int32) → (R54 ((1 : Int32), y9, q4.2.2))))))))))))
def F_X10_layGraphs_127 (sL : Int64) (x1 : Int32) (x3 : Int32) (R112 : Int32 × Int32 × St → Prop) (R127 : Int32 × Int32 × St → Prop) (q19 : Int32 × Int32 × St) : Prop :=
  ((q19.2.2 3 0 ≤ q19.2.1 → (∀ y21 : Int32, y21 = x3 + (1 : Int32) → (R112 (q19.1, y21, q19.2.2)))) ∧ (¬ q19.2.2 3 0 ≤ q19.2.1 → (((q19.1 = 0 → (∀ y23 : Int32, y23 = x3 + (1 : Int32) → (R112 (q19.1, y23, q19.2.2)))) ∧ (¬ q19.1 = 0 → (wp_X10_has x1 q19.2.1 (fun r24 => ((r24 = 0 → ((vp_in q19.2.1 8 ∧ ((vp_in x3 1000 ∧ (((q19.2.2 4 q19.2.1.toNatClampNeg = q19.2.2 24 x3.toNatClampNeg → ((vp_in x3 1000 ∧ ((vp_in q19.2.1 8 ∧ ((vp_in x3 1000 ∧ (wp_X10_numberOf q19.2.2 sL q19.2.1 (fun r29 => wp_X10_put2 q19.2.2 sL (q19.2.2 25 x3.toNatClampNeg) r29 (fun r30 => wp_X10_note q19.2.2 sL (q19.2.2 23 x3.toNatClampNeg) (q19.2.2 5 q19.2.1.toNatClampNeg) r30 (fun r31 u31 => ∀ y32 : Int32, y32 = q19.2.1 + (1 : Int32) → (R127 (r31, y32, u31))))))))))))) ∧ (¬ q19.2.2 4 q19.2.1.toNatClampNeg = q19.2.2 24 x3.toNatClampNeg → (∀ y28 : Int32, y28 = q19.2.1 + (1 : Int32) → (R127 (q19.1, y28, q19.2.2))))))))))) ∧ (¬ r24 = 0 → (∀ y26 : Int32, y26 = q19.2.1 + (1 : Int32) → (R127 (q19.1, y26, q19.2.2))))))))))))
def F_X10_layGraphs_112 (sL : Int64) (x1 : Int32) (K : Int32 → St → Prop) (R112 : Int32 × Int32 × St → Prop) (q16 : Int32 × Int32 × St) : Prop :=
  ((q16.2.2 22 0 ≤ q16.2.1 → ((zb q16.1 ∧ K q16.1 q16.2.2))) ∧ (¬ q16.2.2 22 0 ≤ q16.2.1 → (((q16.1 = 0 → ((zb q16.1 ∧ K q16.1 q16.2.2))) ∧ (¬ q16.1 = 0 → (Lp (F_X10_layGraphs_127 sL x1 q16.2.1 R112) (q16.1, (0 : Int32), q16.2.2)))))))
def J_X10_layGraphs_110 (sS : St) (sL : Int64) (x1 : Int32) (x2 : Int32) (K : Int32 → St → Prop) : Prop :=
  Lp (F_X10_layGraphs_112 sL x1 K) (x2, (0 : Int32), sS)
def J_X10_layGraphs_40 (sS : St) (sL : Int64) (x1 : Int32) (K : Int32 → St → Prop) : Prop :=
  ∀ z3 : St, z3 = us sS 26 (sS 26 0 + (1 : Int32)) → (Lp (F_X10_layGraphs_54 sL x1 (fun q15 => J_X10_layGraphs_110 q15.2 sL x1 q15.1 K)) ((1 : Int32), (0 : Int32), z3))
def F_X10_layGraphs_21 (E40 : St → Prop) (R21 : Int32 × St → Prop) (q34 : Int32 × St) : Prop :=
  (((314928 : Int32) ≤ q34.1 → (E40 q34.2)) ∧ (¬ (314928 : Int32) ≤ q34.1 → ((vp_in q34.1 314928 ∧ (∀ z36 : St, z36 = ua q34.2 27 q34.1 (0 : Int32) → (∀ y37 : Int32, y37 = q34.1 + (1 : Int32) → (R21 (y37, z36))))))))
def wp_X10_layGraphs (sS : St) (sL : Int64) (p1 : Int32) (K : Int32 → St → Prop) : Prop :=
  ∀ z1 : St, z1 = us sS 22 (0 : Int32) → (((z1 26 0 = (2000000000 : Int32) → (∀ z33 : St, z33 = us z1 26 (0 : Int32) → (Lp (F_X10_layGraphs_21 (fun q38 => J_X10_layGraphs_40 q38 sL p1 K)) ((0 : Int32), z33)))) ∧ (¬ z1 26 0 = (2000000000 : Int32) → (J_X10_layGraphs_40 z1 sL p1 K))))
def wp_X10_isRound (sS : St) (sL : Int64) (p1 : Int32) (K : Int32 → Prop) : Prop :=
  (vp_in p1 1000 ∧ ((vp_in p1 1000 ∧ (((sS 23 p1.toNatClampNeg = sS 24 p1.toNatClampNeg → ((vp_in p1 1000 ∧ ((vp_in p1 1000 ∧ (wp_X10_put2 sS sL (sS 25 p1.toNatClampNeg) (sS 25 p1.toNatClampNeg) (fun r2 => (vp_in p1 1000 ∧ (((r2 = sS 25 p1.toNatClampNeg → (K (1 : Int32))) ∧ (¬ r2 = sS 25 p1.toNatClampNeg → (K (0 : Int32))))))))))))) ∧ (¬ sS 23 p1.toNatClampNeg = sS 24 p1.toNatClampNeg → (K (0 : Int32))))))))
def F_X10_isBad_4 (sS : St) (sL : Int64) (x1 : Int32) (E41 : Int32 → Prop) (R4 : Int32 × Int32 → Prop) (q1 : Int32 × Int32) : Prop :=
  (((3 : Int32) ≤ q1.2 → (E41 q1.1)) ∧ (¬ (3 : Int32) ≤ q1.2 → (((q1.1 = 0 → ((vp_in x1 1000 ∧ (wp_X10_digit sS sL (sS 25 x1.toNatClampNeg) q1.2 q1.2 (fun r5 => ((r5 = (2 : Int32) → (∀ y8 : Int32, y8 = q1.2 + (1 : Int32) → (R4 ((1 : Int32), y8)))) ∧ (¬ r5 = (2 : Int32) → (∀ y7 : Int32, y7 = q1.2 + (1 : Int32) → (R4 ((0 : Int32), y7)))))))))) ∧ (¬ q1.1 = 0 → (∀ y4 : Int32, y4 = q1.2 + (1 : Int32) → (R4 ((1 : Int32), y4))))))))
def wp_X10_isBad (sS : St) (sL : Int64) (p1 : Int32) (K : Int32 → Prop) : Prop :=
  Lp (F_X10_isBad_4 sS sL p1 (fun q9 => wp_X10_isRound sS sL p1 (fun r10 => ((r10 = 0 → (K (0 : Int32))) ∧ (¬ r10 = 0 → (((q9 = 0 → (K (1 : Int32))) ∧ (¬ q9 = 0 → (K (0 : Int32)))))))))) ((0 : Int32), (0 : Int32))
def J_X10_noneBad_30 (sS : St) (sL : Int64) (x3 : Int32) (R4 : Int32 × Int32 → Prop) : Prop :=
  wp_X10_isBad sS sL x3 (fun r5 => ((r5 = 0 → (∀ y8 : Int32, y8 = x3 + (1 : Int32) → (R4 ((1 : Int32), y8)))) ∧ (¬ r5 = 0 → (∀ y7 : Int32, y7 = x3 + (1 : Int32) → (R4 ((0 : Int32), y7))))))
def F_X10_noneBad_4 (sS : St) (sL : Int64) (x1 : Int32) (K : Int32 → Prop) (R4 : Int32 × Int32 → Prop) (q1 : Int32 × Int32) : Prop :=
  ((sS 22 0 ≤ q1.2 → ((zb q1.1 ∧ K q1.1))) ∧ (¬ sS 22 0 ≤ q1.2 → (((q1.1 = 0 → ((zb q1.1 ∧ K q1.1))) ∧ (¬ q1.1 = 0 → (((x1 < 0 → (J_X10_noneBad_30 sS sL q1.2 R4)) ∧ (¬ x1 < 0 → ((vp_in q1.2 1000 ∧ (((sS 23 q1.2.toNatClampNeg = x1 → (J_X10_noneBad_30 sS sL q1.2 R4)) ∧ (¬ sS 23 q1.2.toNatClampNeg = x1 → (∀ y10 : Int32, y10 = q1.2 + (1 : Int32) → (R4 ((1 : Int32), y10))))))))))))))))
def wp_X10_noneBad (sS : St) (sL : Int64) (p1 : Int32) (K : Int32 → Prop) : Prop :=
  Lp (F_X10_noneBad_4 sS sL p1 K) ((1 : Int32), (0 : Int32))
def wp_X10_graphs (sS : St) (sL : Int64) (K : Int32 → St → Prop) : Prop :=
  wp_X10_layGraphs sS sL (0 : Int32) (fun r1 u1 => ((r1 = 0 → (K (-2 : Int32) u1)) ∧ (¬ r1 = 0 → (K (u1 22 0) u1))))
def wp_X10_orderOf (sS : St) (sL : Int64) (p1 : Int32) (K : Int32 → Prop) : Prop :=
  (vp_in p1 1000 ∧ ((vp_in p1 1000 ∧ ((vp_in p1 1000 ∧ (wp_X10_codeOf (sS 23 p1.toNatClampNeg) (sS 24 p1.toNatClampNeg) (sS 25 p1.toNatClampNeg) (fun r1 => K r1)))))))
def F_X10_graph_45 (sS : St) (sL : Int64) (x3 : Int32) (E84 : Int32 → Prop) (R45 : Int32 × Int32 → Prop) (q8 : Int32 × Int32) : Prop :=
  ((sS 22 0 ≤ q8.2 → (E84 q8.1)) ∧ (¬ sS 22 0 ≤ q8.2 → (wp_X10_orderOf sS sL q8.2 (fun r10 => wp_X10_orderOf sS sL x3 (fun r11 => ((r11 ≤ r10 → (∀ y13 : Int32, y13 = (q8.1 + (0 : Int32)) → (∀ y14 : Int32, y14 = q8.2 + (1 : Int32) → (R45 (y13, y14))))) ∧ (¬ r11 ≤ r10 → (∀ y15 : Int32, y15 = (q8.1 + (1 : Int32)) → (∀ y16 : Int32, y16 = q8.2 + (1 : Int32) → (R45 (y15, y16)))))))))))
def F_X10_graph_31 (sS : St) (sL : Int64) (x1 : Int32) (K : Int32 → St → Prop) (E90 : Int32 → Prop) (R31 : Int32 → Prop) (q6 : Int32) : Prop :=
  ((sS 22 0 ≤ q6 → (K (-1 : Int32) sS)) ∧ (¬ sS 22 0 ≤ q6 → (Lp (F_X10_graph_45 sS sL q6 (fun q17 => ((q17 = x1 → (E90 q6)) ∧ (¬ q17 = x1 → (∀ y19 : Int32, y19 = q6 + (1 : Int32) → (R31 y19)))))) ((0 : Int32), (0 : Int32)))))
def wp_X10_graph (sS : St) (sL : Int64) (p1 : Int32) (p2 : Int32) (K : Int32 → St → Prop) : Prop :=
  ((p1 < 0 → (K (-1 : Int32) sS)) ∧ (¬ p1 < 0 → (wp_X10_in p2.toInt64 (0 : Int64) (4 : Int64) (fun r2 => ((r2 = 0 → (K (-1 : Int32) sS)) ∧ (¬ r2 = 0 → (wp_X10_layGraphs sS sL (0 : Int32) (fun r4 u4 => ((r4 = 0 → (K (-2 : Int32) u4)) ∧ (¬ r4 = 0 → (Lp (F_X10_graph_31 u4 sL p1 K (fun q20 => ((p2 = (0 : Int32) → ((vp_in q20 1000 ∧ (K (u4 23 q20.toNatClampNeg) u4)))) ∧ (¬ p2 = (0 : Int32) → ((p2 = (1 : Int32) → ((vp_in q20 1000 ∧ (K (u4 24 q20.toNatClampNeg) u4)))) ∧ (¬ p2 = (1 : Int32) → ((p2 = (2 : Int32) → ((vp_in q20 1000 ∧ (K (u4 25 q20.toNatClampNeg) u4)))) ∧ (¬ p2 = (2 : Int32) → ((p2 = (3 : Int32) → (wp_X10_isRound u4 sL q20 (fun r25 => ((r25 = 0 → (K (0 : Int32) u4)) ∧ (¬ r25 = 0 → (K (1 : Int32) u4)))))) ∧ (¬ p2 = (3 : Int32) → (wp_X10_isBad u4 sL q20 (fun r27 => ((r27 = 0 → (K (0 : Int32) u4)) ∧ (¬ r27 = 0 → (K (1 : Int32) u4))))))))))))))) (0 : Int32))))))))))))
def wp_X10_ends (sS : St) (sL : Int64) (p1 : Int32) (K : Int32 → St → Prop) : Prop :=
  wp_X10_in p1.toInt64 (-1 : Int64) (3 : Int64) (fun r1 => ((r1 = 0 → (K (-1 : Int32) sS)) ∧ (¬ r1 = 0 → (wp_X10_layGraphs sS sL (0 : Int32) (fun r3 u3 => ((r3 = 0 → (K (-2 : Int32) u3)) ∧ (¬ r3 = 0 → (wp_X10_noneBad u3 sL p1 (fun r5 => ((r5 = 0 → (K (0 : Int32) u3)) ∧ (¬ r5 = 0 → (K (1 : Int32) u3))))))))))))
def F_X10_layShortest_2 (E24 : St → Prop) (R2 : Int32 × St → Prop) (q1 : Int32 × St) : Prop :=
  ((q1.2 22 0 ≤ q1.1 → (E24 q1.2)) ∧ (¬ q1.2 22 0 ≤ q1.1 → ((vp_in q1.1 1000 ∧ (∀ z3 : St, z3 = ua q1.2 29 q1.1 (-9 : Int32) → (∀ y4 : Int32, y4 = q1.1 + (1 : Int32) → (R2 (y4, z3))))))))
def F_X10_layShortest_31 (sL : Int64) (E72 : St → Prop) (R31 : Int32 × St → Prop) (q7 : Int32 × St) : Prop :=
  ((q7.1 < 0 → (E72 q7.2)) ∧ (¬ q7.1 < 0 → ((vp_in q7.1 8 ∧ ((vp_in q7.1 8 ∧ (wp_X10_numberOf q7.2 sL q7.1 (fun r9 => wp_X10_codeOf (q7.2 4 q7.1.toNatClampNeg) (q7.2 5 q7.1.toNatClampNeg) r9 (fun r10 => (vp_in r10 314928 ∧ ((vp_in (q7.2 28 r10.toNatClampNeg) 1000 ∧ (∀ z11 : St, z11 = ua q7.2 29 (q7.2 28 r10.toNatClampNeg) q7.1 → (∀ y12 : Int32, y12 = q7.1 + (-1 : Int32) → (R31 (y12, z11))))))))))))))))
def J_X10_layShortest_125 (sS : St) (sL : Int64) (x2 : Int32) (R88 : Int32 × St → Prop) : Prop :=
  wp_X10_isBad sS sL x2 (fun r22 => ((r22 = 0 → (∀ y24 : Int32, y24 = x2 + (1 : Int32) → (R88 (y24, sS)))) ∧ (¬ r22 = 0 → ((vp_in x2 1000 ∧ (∀ z25 : St, z25 = us sS 31 (sS 29 x2.toNatClampNeg) → (∀ y26 : Int32, y26 = x2 + (1 : Int32) → (R88 (y26, z25)))))))))
def F_X10_layShortest_88 (sL : Int64) (E149 : St → Prop) (R88 : Int32 × St → Prop) (q17 : Int32 × St) : Prop :=
  ((q17.2 22 0 ≤ q17.1 → (E149 q17.2)) ∧ (¬ q17.2 22 0 ≤ q17.1 → ((vp_in q17.1 1000 ∧ (((q17.2 29 q17.1.toNatClampNeg < 0 → (∀ y20 : Int32, y20 = q17.1 + (1 : Int32) → (R88 (y20, q17.2)))) ∧ (¬ q17.2 29 q17.1.toNatClampNeg < 0 → (((q17.2 31 0 < 0 → (J_X10_layShortest_125 q17.2 sL q17.1 R88)) ∧ (¬ q17.2 31 0 < 0 → ((vp_in q17.1 1000 ∧ (((q17.2 31 0 ≤ q17.2 29 q17.1.toNatClampNeg → (∀ y28 : Int32, y28 = q17.1 + (1 : Int32) → (R88 (y28, q17.2)))) ∧ (¬ q17.2 31 0 ≤ q17.2 29 q17.1.toNatClampNeg → (J_X10_layShortest_125 q17.2 sL q17.1 R88))))))))))))))))
def F_X10_layShortest_160 (E182 : St → Prop) (R160 : Int32 × St → Prop) (q31 : Int32 × St) : Prop :=
  ((q31.2 22 0 ≤ q31.1 → (E182 q31.2)) ∧ (¬ q31.2 22 0 ≤ q31.1 → ((vp_in q31.1 1000 ∧ (∀ z33 : St, z33 = ua q31.2 30 q31.1 (-9 : Int32) → (∀ y34 : Int32, y34 = q31.1 + (1 : Int32) → (R160 (y34, z33))))))))
def F_X10_layShortest_194 (sL : Int64) (x2 : Int32) (R184 : Int32 × St → Prop) (R194 : Int32 × St → Prop) (q38 : Int32 × St) : Prop :=
  ((q38.2 3 0 ≤ q38.1 → (∀ y40 : Int32, y40 = x2 + (1 : Int32) → (R184 (y40, q38.2)))) ∧ (¬ q38.2 3 0 ≤ q38.1 → ((vp_in x2 1000 ∧ (((q38.2 29 x2.toNatClampNeg < 0 → (∀ y42 : Int32, y42 = x2 + (1 : Int32) → (R184 (y42, q38.2)))) ∧ (¬ q38.2 29 x2.toNatClampNeg < 0 → ((vp_in q38.1 8 ∧ ((vp_in x2 1000 ∧ (((q38.2 4 q38.1.toNatClampNeg = q38.2 24 x2.toNatClampNeg → ((vp_in x2 1000 ∧ ((vp_in q38.1 8 ∧ ((vp_in x2 1000 ∧ (wp_X10_numberOf q38.2 sL q38.1 (fun r45 => wp_X10_put2 q38.2 sL (q38.2 25 x2.toNatClampNeg) r45 (fun r46 => wp_X10_codeOf (q38.2 23 x2.toNatClampNeg) (q38.2 5 q38.1.toNatClampNeg) r46 (fun r47 => (vp_in r47 314928 ∧ (∀ y48 : Int32, y48 = q38.2 28 r47.toNatClampNeg → ((vp_in x2 1000 ∧ (∀ y49 : Int32, y49 = (((8 : Int32) * q38.2 29 x2.toNatClampNeg) + q38.1) → ((vp_in y48 1000 ∧ (((q38.2 30 y48.toNatClampNeg < 0 → ((vp_in y48 1000 ∧ (∀ z51 : St, z51 = ua q38.2 30 y48 y49 → (∀ y52 : Int32, y52 = q38.1 + (1 : Int32) → (R194 (y52, z51))))))) ∧ (¬ q38.2 30 y48.toNatClampNeg < 0 → ((vp_in y48 1000 ∧ (((q38.2 30 y48.toNatClampNeg ≤ y49 → ((vp_in y48 1000 ∧ ((vp_in y48 1000 ∧ (∀ z54 : St, z54 = ua q38.2 30 y48 (q38.2 30 y48.toNatClampNeg) → (∀ y55 : Int32, y55 = q38.1 + (1 : Int32) → (R194 (y55, z54))))))))) ∧ (¬ q38.2 30 y48.toNatClampNeg ≤ y49 → ((vp_in y48 1000 ∧ (∀ z56 : St, z56 = ua q38.2 30 y48 y49 → (∀ y57 : Int32, y57 = q38.1 + (1 : Int32) → (R194 (y57, z56)))))))))))))))))))))))))))))))) ∧ (¬ q38.2 4 q38.1.toNatClampNeg = q38.2 24 x2.toNatClampNeg → (∀ y44 : Int32, y44 = q38.1 + (1 : Int32) → (R194 (y44, q38.2)))))))))))))))))
def F_X10_layShortest_184 (sL : Int64) (E329 : St → Prop) (R184 : Int32 × St → Prop) (q36 : Int32 × St) : Prop :=
  ((q36.2 22 0 ≤ q36.1 → (E329 q36.2)) ∧ (¬ q36.2 22 0 ≤ q36.1 → (Lp (F_X10_layShortest_194 sL q36.1 R184) ((0 : Int32), q36.2))))
def F_X10_layShortest_331 (x1 : Int32) (R74 : Int32 × St → Prop) (R331 : Int32 × St → Prop) (q59 : Int32 × St) : Prop :=
  ((q59.2 22 0 ≤ q59.1 → (∀ y61 : Int32, y61 = x1 + (1 : Int32) → (R74 (y61, q59.2)))) ∧ (¬ q59.2 22 0 ≤ q59.1 → ((vp_in q59.1 1000 ∧ ((vp_in q59.1 1000 ∧ (∀ z62 : St, z62 = ua q59.2 29 q59.1 (q59.2 30 q59.1.toNatClampNeg) → (∀ y63 : Int32, y63 = q59.1 + (1 : Int32) → (R331 (y63, z62))))))))))
def F_X10_layShortest_74 (sL : Int64) (K : Int32 → St → Prop) (R74 : Int32 × St → Prop) (q14 : Int32 × St) : Prop :=
  (((8 : Int32) < q14.1 → (K (-9 : Int32) q14.2)) ∧ (¬ (8 : Int32) < q14.1 → (∀ z16 : St, z16 = us q14.2 31 (-9 : Int32) → (Lp (F_X10_layShortest_88 sL (fun q29 => ((q29 31 0 < 0 → (Lp (F_X10_layShortest_160 (fun q35 => Lp (F_X10_layShortest_184 sL (fun q58 => Lp (F_X10_layShortest_331 q14.1 R74) ((0 : Int32), q58))) ((0 : Int32), q35))) ((0 : Int32), q29))) ∧ (¬ q29 31 0 < 0 → (K q14.1 q29))))) ((0 : Int32), z16)))))
def wp_X10_layShortest (sS : St) (sL : Int64) (K : Int32 → St → Prop) : Prop :=
  Lp (F_X10_layShortest_2 (fun q5 => ∀ y6 : Int32, y6 = (q5 3 0 - (1 : Int32)) → (Lp (F_X10_layShortest_31 sL (fun q13 => Lp (F_X10_layShortest_74 sL K) ((1 : Int32), q13))) (y6, q5)))) ((0 : Int32), sS)
def wp_X10_shortest (sS : St) (sL : Int64) (p1 : Int32) (K : Int32 → St → Prop) : Prop :=
  (((-1 : Int32) ≤ p1 → (wp_X10_layGraphs sS sL (0 : Int32) (fun r2 u2 => ((r2 = 0 → (K (-2 : Int32) u2)) ∧ (¬ r2 = 0 → (wp_X10_layShortest u2 sL (fun r4 u4 => ((r4 = (-9 : Int32) → (K r4 u4)) ∧ (¬ r4 = (-9 : Int32) → (((0 ≤ p1 → (((r4 ≤ p1 → (K (-1 : Int32) u4)) ∧ (¬ r4 ≤ p1 → (K ((u4 31 0 >>> (((3 : Int32) * ((r4 - (1 : Int32)) - p1)) &&& 31)) &&& (7 : Int32)) u4))))) ∧ (¬ 0 ≤ p1 → (K r4 u4))))))))))))) ∧ (¬ (-1 : Int32) ≤ p1 → (K (-1 : Int32) sS)))
def J_X10_go_45 (sS : St) (x1 : Int32) (K : Int32 → St → Prop) : Prop :=
  ((sS 7 0 = (12 : Int32) → (K (-3 : Int32) sS)) ∧ (¬ sS 7 0 = (12 : Int32) → ((vp_in (sS 7 0) 12 ∧ (∀ z5 : St, z5 = ua sS 8 (sS 7 0) x1 → (∀ z6 : St, z6 = us z5 7 (z5 7 0 + (1 : Int32)) → (K (z6 7 0) z6)))))))
def wp_X10_go (sS : St) (sL : Int64) (p1 : Int32) (K : Int32 → St → Prop) : Prop :=
  wp_X10_isCall sS sL p1 (fun r1 => ((r1 = 0 → (K (-1 : Int32) sS)) ∧ (¬ r1 = 0 → (((sS 7 0 ≤ 0 → (J_X10_go_45 sS p1 K)) ∧ (¬ sS 7 0 ≤ 0 → ((vp_in (sS 7 0 - (1 : Int32)) 12 ∧ ((vp_in (sS 8 (sS 7 0 - (1 : Int32)).toNatClampNeg) 8 ∧ ((vp_in p1 8 ∧ (((sS 5 (sS 8 (sS 7 0 - (1 : Int32)).toNatClampNeg).toNatClampNeg = sS 4 p1.toNatClampNeg → (J_X10_go_45 sS p1 K)) ∧ (¬ sS 5 (sS 8 (sS 7 0 - (1 : Int32)).toNatClampNeg).toNatClampNeg = sS 4 p1.toNatClampNeg → (K (-2 : Int32) sS))))))))))))))))
def wp_X10_anew (sS : St) (sL : Int64) (K : Int32 → St → Prop) : Prop :=
  ∀ y1 : Int32, y1 = sS 7 0 → (∀ z2 : St, z2 = us sS 7 (0 : Int32) → (K y1 z2))
def F_X10_threadsOf_28 (sS : St) (sL : Int64) (x1 : Int32) (x2 : Int32) (x5 : Int32) (E73 : Int32 → Prop) (R28 : Int32 × Int32 → Prop) (q6 : Int32 × Int32) : Prop :=
  (((3 : Int32) ≤ q6.2 → (E73 q6.1)) ∧ (¬ (3 : Int32) ≤ q6.2 → (((q6.1 = 0 → (wp_X10_has x2 q6.2 (fun r10 => ((r10 = 0 → (∀ y12 : Int32, y12 = q6.2 + (1 : Int32) → (R28 ((0 : Int32), y12)))) ∧ (¬ r10 = 0 → (wp_X10_digit sS sL x1 x5 q6.2 (fun r13 => ((r13 ≤ 0 → (∀ y15 : Int32, y15 = q6.2 + (1 : Int32) → (R28 ((0 : Int32), y15)))) ∧ (¬ r13 ≤ 0 → (∀ y16 : Int32, y16 = q6.2 + (1 : Int32) → (R28 ((1 : Int32), y16)))))))))))) ∧ (¬ q6.1 = 0 → (∀ y9 : Int32, y9 = q6.2 + (1 : Int32) → (R28 ((1 : Int32), y9))))))))
def F_X10_threadsOf_16 (sS : St) (sL : Int64) (x1 : Int32) (x2 : Int32) (x3 : Int32) (R5 : Int32 × Int32 → Prop) (R16 : Int32 × Int32 → Prop) (q3 : Int32 × Int32) : Prop :=
  (((3 : Int32) ≤ q3.2 → (∀ y5 : Int32, y5 = x3 + (1 : Int32) → (R5 (q3.1, y5)))) ∧ (¬ (3 : Int32) ≤ q3.2 → (Lp (F_X10_threadsOf_28 sS sL x1 x2 q3.2 (fun q17 => ((q17 = 0 → (∀ y19 : Int32, y19 = (q3.1 ||| (0 : Int32)) → (∀ y20 : Int32, y20 = q3.2 + (1 : Int32) → (R16 (y19, y20))))) ∧ (¬ q17 = 0 → (∀ y21 : Int32, y21 = (q3.1 ||| ((1 : Int32) <<< (q3.2 &&& 31))) → (∀ y22 : Int32, y22 = q3.2 + (1 : Int32) → (R16 (y21, y22)))))))) ((0 : Int32), (0 : Int32)))))
def F_X10_threadsOf_5 (sS : St) (sL : Int64) (x1 : Int32) (K : Int32 → Prop) (R5 : Int32 × Int32 → Prop) (q1 : Int32 × Int32) : Prop :=
  (((3 : Int32) ≤ q1.2 → (K q1.1)) ∧ (¬ (3 : Int32) ≤ q1.2 → (Lp (F_X10_threadsOf_16 sS sL x1 q1.1 q1.2 R5) ((0 : Int32), (0 : Int32)))))
def wp_X10_threadsOf (sS : St) (sL : Int64) (p1 : Int32) (K : Int32 → Prop) : Prop :=
  Lp (F_X10_threadsOf_5 sS sL p1 K) ((7 : Int32), (0 : Int32))
def F_X10_falls_16 (sS : St) (sL : Int64) (x3 : Int32) (E51 : Int32 → Prop) (R16 : Int32 × Int32 → Prop) (q3 : Int32 × Int32) : Prop :=
  (((3 : Int32) ≤ q3.2 → (E51 q3.1)) ∧ (¬ (3 : Int32) ≤ q3.2 → (((q3.1 = 0 → (wp_X10_digit sS sL x3 q3.2 q3.2 (fun r7 => ((r7 = (2 : Int32) → (∀ y10 : Int32, y10 = q3.2 + (1 : Int32) → (R16 ((1 : Int32), y10)))) ∧ (¬ r7 = (2 : Int32) → (∀ y9 : Int32, y9 = q3.2 + (1 : Int32) → (R16 ((0 : Int32), y9)))))))) ∧ (¬ q3.1 = 0 → (∀ y6 : Int32, y6 = q3.2 + (1 : Int32) → (R16 ((1 : Int32), y6))))))))
def F_X10_falls_7 (sS : St) (sL : Int64) (x1 : Int32) (K : Int32 → Prop) (R7 : Int32 × Int32 × Int32 → Prop) (q1 : Int32 × Int32 × Int32) : Prop :=
  (((3 : Int32) < q1.2.2 → ((zb q1.1 ∧ K q1.1))) ∧ (¬ (3 : Int32) < q1.2.2 → (Lp (F_X10_falls_16 sS sL q1.2.1 (fun q11 => wp_X10_put2 sS sL q1.2.1 x1 (fun r12 => ∀ y13 : Int32, y13 = q1.2.2 + (1 : Int32) → (R7 (q11, r12, y13))))) (q1.1, (0 : Int32)))))
def wp_X10_falls (sS : St) (sL : Int64) (p1 : Int32) (K : Int32 → Prop) : Prop :=
  Lp (F_X10_falls_7 sS sL p1 K) ((0 : Int32), p1, (1 : Int32))
def F_X10_trip_67 (sS : St) (sL : Int64) (E97 : Int32 → Prop) (R67 : Int32 × Int32 → Prop) (q6 : Int32 × Int32) : Prop :=
  ((sS 7 0 ≤ q6.2 → (E97 q6.1)) ∧ (¬ sS 7 0 ≤ q6.2 → ((vp_in q6.2 12 ∧ (wp_X10_numberOf sS sL (sS 8 q6.2.toNatClampNeg) (fun r8 => wp_X10_put2 sS sL q6.1 r8 (fun r9 => ∀ y10 : Int32, y10 = q6.2 + (1 : Int32) → (R67 (r9, y10)))))))))
def wp_X10_trip (sS : St) (sL : Int64) (p1 : Int32) (K : Int32 → Prop) : Prop :=
  wp_X10_in p1.toInt64 (0 : Int64) (2 : Int64) (fun r1 => ((r1 = 0 → (K (-1 : Int32))) ∧ (¬ r1 = 0 → (((sS 7 0 = 0 → (K (-2 : Int32))) ∧ (¬ sS 7 0 = 0 → ((vp_in (sS 7 0 - (1 : Int32)) 12 ∧ ((vp_in (sS 8 (sS 7 0 - (1 : Int32)).toNatClampNeg) 8 ∧ ((vp_in (sS 8 0) 8 ∧ (((sS 5 (sS 8 (sS 7 0 - (1 : Int32)).toNatClampNeg).toNatClampNeg = sS 4 (sS 8 0).toNatClampNeg → (wp_X10_numberOf sS sL (sS 8 0) (fun r5 => Lp (F_X10_trip_67 sS sL (fun q11 => ((p1 = 0 → (K q11)) ∧ (¬ p1 = 0 → (((p1 = (1 : Int32) → (wp_X10_threadsOf sS sL q11 (fun r16 => K r16))) ∧ (¬ p1 = (1 : Int32) → (wp_X10_falls sS sL q11 (fun r14 => ((r14 = 0 → (K (0 : Int32))) ∧ (¬ r14 = 0 → (K (1 : Int32))))))))))))) (r5, (1 : Int32))))) ∧ (¬ sS 5 (sS 8 (sS 7 0 - (1 : Int32)).toNatClampNeg).toNatClampNeg = sS 4 (sS 8 0).toNatClampNeg → (K (-2 : Int32)))))))))))))))))
def F_X10_fallsBy_2 (sS : St) (sL : Int64) (x1 : Int32) (x2 : Int32) (K : Int32 → Prop) (E32 : Int32 → Prop) (R2 : Int32 → Prop) (q1 : Int32) : Prop :=
  ((x2 ≤ q1 → (K (0 : Int32))) ∧ (¬ x2 ≤ q1 → ((vp_in q1 3 ∧ ((vp_in q1 3 ∧ (wp_X10_digit sS sL x1 (sS 32 q1.toNatClampNeg) (sS 32 q1.toNatClampNeg) (fun r3 => ((r3 = (1 : Int32) → (∀ y5 : Int32, y5 = q1 + (1 : Int32) → (R2 y5))) ∧ (¬ r3 = (1 : Int32) → (E32 r3)))))))))))
def wp_X10_fallsBy (sS : St) (sL : Int64) (p1 : Int32) (p2 : Int32) (K : Int32 → Prop) : Prop :=
  Lp (F_X10_fallsBy_2 sS sL p1 p2 K (fun q6 => ((q6 = (2 : Int32) → (K (1 : Int32))) ∧ (¬ q6 = (2 : Int32) → (K (0 : Int32)))))) (0 : Int32)
def F_X10_isSlow_5 (sS : St) (sL : Int64) (x1 : Int32) (x2 : Int32) (K : Int32 → Prop) (R5 : Int32 × Int32 → Prop) (q1 : Int32 × Int32) : Prop :=
  ((sS 22 0 ≤ q1.2 → ((zb q1.1 ∧ K q1.1))) ∧ (¬ sS 22 0 ≤ q1.2 → (((q1.1 = 0 → ((zb q1.1 ∧ K q1.1))) ∧ (¬ q1.1 = 0 → ((vp_in q1.2 1000 ∧ (((sS 23 q1.2.toNatClampNeg = x1 → ((vp_in q1.2 1000 ∧ (((sS 24 q1.2.toNatClampNeg = x1 → ((vp_in q1.2 1000 ∧ (wp_X10_fallsBy sS sL (sS 25 q1.2.toNatClampNeg) x2 (fun r8 => ((r8 = 0 → (∀ y10 : Int32, y10 = q1.2 + (1 : Int32) → (R5 ((0 : Int32), y10)))) ∧ (¬ r8 = 0 → (∀ y11 : Int32, y11 = q1.2 + (1 : Int32) → (R5 ((1 : Int32), y11)))))))))) ∧ (¬ sS 24 q1.2.toNatClampNeg = x1 → (∀ y7 : Int32, y7 = q1.2 + (1 : Int32) → (R5 ((1 : Int32), y7))))))))) ∧ (¬ sS 23 q1.2.toNatClampNeg = x1 → (∀ y5 : Int32, y5 = q1.2 + (1 : Int32) → (R5 ((1 : Int32), y5)))))))))))))
def wp_X10_isSlow (sS : St) (sL : Int64) (p1 : Int32) (p2 : Int32) (K : Int32 → Prop) : Prop :=
  Lp (F_X10_isSlow_5 sS sL p1 p2 K) ((1 : Int32), (0 : Int32))
def J_X10_slow_223 (sS : St) (sL : Int64) (x1 : Int32) (x3 : Int32) (x5 : Int32) (t0 : Int32) (E239 : Int32 × St → Prop) (R72 : Int32 × St → Prop) : Prop :=
  ((t0 = 0 → (∀ y25 : Int32, y25 = x5 + (1 : Int32) → (R72 (y25, sS)))) ∧ (¬ t0 = 0 → (wp_X10_isSlow sS sL x1 x3 (fun r26 => ((r26 = 0 → (∀ y28 : Int32, y28 = x5 + (1 : Int32) → (R72 (y28, sS)))) ∧ (¬ r26 = 0 → (E239 (x3, sS))))))))
def J_X10_slow_218 (sS : St) (sL : Int64) (x1 : Int32) (x3 : Int32) (x5 : Int32) (E239 : Int32 × St → Prop) (R72 : Int32 × St → Prop) : Prop :=
  J_X10_slow_223 sS sL x1 x3 x5 (1 : Int32) E239 R72
def J_X10_slow_222 (sS : St) (sL : Int64) (x1 : Int32) (x3 : Int32) (x5 : Int32) (E239 : Int32 × St → Prop) (R72 : Int32 × St → Prop) : Prop :=
  J_X10_slow_223 sS sL x1 x3 x5 (0 : Int32) E239 R72
def J_X10_slow_183 (sS : St) (sL : Int64) (x1 : Int32) (x3 : Int32) (x5 : Int32) (E239 : Int32 × St → Prop) (R72 : Int32 × St → Prop) : Prop :=
  ((x3 < (3 : Int32) → (J_X10_slow_218 sS sL x1 x3 x5 E239 R72)) ∧ (¬ x3 < (3 : Int32) → (((sS 32 0 = sS 32 2 → (J_X10_slow_222 sS sL x1 x3 x5 E239 R72)) ∧ (¬ sS 32 0 = sS 32 2 → (((sS 32 1 = sS 32 2 → (J_X10_slow_222 sS sL x1 x3 x5 E239 R72)) ∧ (¬ sS 32 1 = sS 32 2 → (J_X10_slow_218 sS sL x1 x3 x5 E239 R72)))))))))
def J_X10_slow_162 (sS : St) (sL : Int64) (x1 : Int32) (x3 : Int32) (x5 : Int32) (t1 : Int32) (t2 : Int32) (E239 : Int32 × St → Prop) (R72 : Int32 × St → Prop) : Prop :=
  (vp_in t1 3 ∧ (∀ z21 : St, z21 = ua sS 32 t1 t2 → (((x3 < (2 : Int32) → (J_X10_slow_183 z21 sL x1 x3 x5 E239 R72)) ∧ (¬ x3 < (2 : Int32) → (((z21 32 0 = z21 32 1 → (J_X10_slow_222 z21 sL x1 x3 x5 E239 R72)) ∧ (¬ z21 32 0 = z21 32 1 → (J_X10_slow_183 z21 sL x1 x3 x5 E239 R72)))))))))
def J_X10_slow_144 (sS : St) (sL : Int64) (x1 : Int32) (x2 : Int32) (x3 : Int32) (x5 : Int32) (t1 : Int32) (t2 : Int32) (E239 : Int32 × St → Prop) (R72 : Int32 × St → Prop) : Prop :=
  (vp_in t1 3 ∧ (∀ z19 : St, z19 = ua sS 32 t1 t2 → (((x2 = 0 → (J_X10_slow_162 z19 sL x1 x3 x5 (2 : Int32) (0 : Int32) E239 R72)) ∧ (¬ x2 = 0 → ((¬ x2 = 0 ∧ (J_X10_slow_162 z19 sL x1 x3 x5 (2 : Int32) (x5 - x5 / x2 * x2) E239 R72))))))))
def J_X10_slow_112 (sS : St) (sL : Int64) (x1 : Int32) (x2 : Int32) (x3 : Int32) (x5 : Int32) (t1 : Int32) (t2 : Int32) (E239 : Int32 × St → Prop) (R72 : Int32 × St → Prop) : Prop :=
  (vp_in t1 3 ∧ (∀ z16 : St, z16 = ua sS 32 t1 t2 → (((x3 = (2 : Int32) → ((¬ x2 = 0 ∧ (J_X10_slow_144 z16 sL x1 x2 x3 x5 (1 : Int32) (x5 - x5 / x2 * x2) E239 R72)))) ∧ (¬ x3 = (2 : Int32) → (((x2 = 0 → (J_X10_slow_144 z16 sL x1 x2 x3 x5 (1 : Int32) (0 : Int32) E239 R72)) ∧ (¬ x2 = 0 → ((¬ x2 = 0 ∧ ((¬ x2 = 0 ∧ (J_X10_slow_144 z16 sL x1 x2 x3 x5 (1 : Int32) ((x5 / x2) - (x5 / x2) / x2 * x2) E239 R72)))))))))))))
def F_X10_slow_72 (sL : Int64) (x1 : Int32) (x2 : Int32) (x3 : Int32) (x4 : Int32) (E239 : Int32 × St → Prop) (R29 : Int32 × St → Prop) (R72 : Int32 × St → Prop) (q11 : Int32 × St) : Prop :=
  ((x4 ≤ q11.1 → (∀ y13 : Int32, y13 = x3 + (1 : Int32) → (R29 (y13, q11.2)))) ∧ (¬ x4 ≤ q11.1 → ((((2 : Int32) ≤ x3 → (((x3 = (2 : Int32) → ((¬ x2 = 0 ∧ (J_X10_slow_112 q11.2 sL x1 x2 x3 q11.1 (0 : Int32) (q11.1 / x2) E239 R72)))) ∧ (¬ x3 = (2 : Int32) → ((¬ (x2 * x2) = 0 ∧ (J_X10_slow_112 q11.2 sL x1 x2 x3 q11.1 (0 : Int32) (q11.1 / (x2 * x2)) E239 R72))))))) ∧ (¬ (2 : Int32) ≤ x3 → (J_X10_slow_112 q11.2 sL x1 x2 x3 q11.1 (0 : Int32) q11.1 E239 R72))))))
def J_X10_slow_67 (sS : St) (sL : Int64) (x1 : Int32) (x2 : Int32) (x3 : Int32) (t0 : Int32) (E239 : Int32 × St → Prop) (R29 : Int32 × St → Prop) : Prop :=
  Lp (F_X10_slow_72 sL x1 x2 x3 t0 E239 R29) ((0 : Int32), sS)
def F_X10_slow_29 (sL : Int64) (x1 : Int32) (x2 : Int32) (K : Int32 → St → Prop) (E239 : Int32 × St → Prop) (R29 : Int32 × St → Prop) (q6 : Int32 × St) : Prop :=
  ((x2 < q6.1 → (K (-9 : Int32) q6.2)) ∧ (¬ x2 < q6.1 → (((q6.1 = 0 → (J_X10_slow_67 q6.2 sL x1 x2 q6.1 (1 : Int32) E239 R29)) ∧ (¬ q6.1 = 0 → (((q6.1 = (1 : Int32) → (J_X10_slow_67 q6.2 sL x1 x2 q6.1 x2 E239 R29)) ∧ (¬ q6.1 = (1 : Int32) → (((q6.1 = (2 : Int32) → (J_X10_slow_67 q6.2 sL x1 x2 q6.1 (x2 * x2) E239 R29)) ∧ (¬ q6.1 = (2 : Int32) → (J_X10_slow_67 q6.2 sL x1 x2 q6.1 ((x2 * x2) * x2) E239 R29))))))))))))
def F_X10_slow_247 (sS : St) (K : Int32 → St → Prop) (R247 : Int32 × Int32 → Prop) (q34 : Int32 × Int32) : Prop :=
  ((q34.2 < 0 → (K q34.1 sS)) ∧ (¬ q34.2 < 0 → ((vp_in q34.2 3 ∧ (∀ y36 : Int32, y36 = ((((4 : Int32) * q34.1) + sS 32 q34.2.toNatClampNeg) + (1 : Int32)) → (∀ y37 : Int32, y37 = q34.2 + (-1 : Int32) → (R247 (y36, y37))))))))
def wp_X10_slow (sS : St) (sL : Int64) (p1 : Int32) (K : Int32 → St → Prop) : Prop :=
  wp_X10_isAct p1 (fun r1 => ((r1 = 0 → (K (-1 : Int32) sS)) ∧ (¬ r1 = 0 → (wp_X10_layGraphs sS sL (0 : Int32) (fun r3 u3 => ((r3 = 0 → (K (-2 : Int32) u3)) ∧ (¬ r3 = 0 → ((vp_in p1 4 ∧ (∀ y5 : Int32, y5 = u3 2 p1.toNatClampNeg → (Lp (F_X10_slow_29 sL p1 y5 K (fun q32 => ∀ y33 : Int32, y33 = (q32.1 - (1 : Int32)) → (Lp (F_X10_slow_247 q32.2 K) ((0 : Int32), y33)))) ((0 : Int32), u3))))))))))))
def F_X10_bits_4 (K : Int32 → Prop) (R4 : Int32 × Int32 → Prop) (q1 : Int32 × Int32) : Prop :=
  ((q1.2 = 0 → (K q1.1)) ∧ (¬ q1.2 = 0 → (∀ y3 : Int32, y3 = q1.1 + (1 : Int32) → (∀ y4 : Int32, y4 = (q1.2 &&& (q1.2 - (1 : Int32))) → (R4 (y3, y4))))))
def wp_X10_bits (p1 : Int32) (K : Int32 → Prop) : Prop :=
  Lp (F_X10_bits_4 K) ((0 : Int32), p1)
def J_X10_mended_55 (sS : St) (sL : Int64) (x2 : Int32) (x3 : Int32) (R28 : Int32 × Int32 × St → Prop) : Prop :=
  wp_X10_layGraphs sS sL x3 (fun r8 u8 => wp_X10_noneBad u8 sL (-1 : Int32) (fun r9 => ((r9 = 0 → (∀ y11 : Int32, y11 = x3 + (1 : Int32) → (R28 (x2, y11, u8)))) ∧ (¬ r9 = 0 → (∀ y12 : Int32, y12 = x3 + (1 : Int32) → (R28 (x3, y12, u8)))))))
def F_X10_mended_28 (sL : Int64) (E81 : Int32 × St → Prop) (R28 : Int32 × Int32 × St → Prop) (q5 : Int32 × Int32 × St) : Prop :=
  ((((1 : Int32) <<< (q5.2.2 3 0 &&& 31)) ≤ q5.2.1 → (E81 (q5.1, q5.2.2))) ∧ (¬ ((1 : Int32) <<< (q5.2.2 3 0 &&& 31)) ≤ q5.2.1 → (((q5.1 = (-9 : Int32) → (J_X10_mended_55 q5.2.2 sL q5.1 q5.2.1 R28)) ∧ (¬ q5.1 = (-9 : Int32) → (wp_X10_bits q5.2.1 (fun r13 => wp_X10_bits q5.1 (fun r14 => ((r14 ≤ r13 → (∀ y16 : Int32, y16 = q5.2.1 + (1 : Int32) → (R28 (q5.1, y16, q5.2.2)))) ∧ (¬ r14 ≤ r13 → (J_X10_mended_55 q5.2.2 sL q5.1 q5.2.1 R28)))))))))))
def wp_X10_mended (sS : St) (sL : Int64) (p1 : Int32) (K : Int32 → St → Prop) : Prop :=
  wp_X10_in p1.toInt64 (0 : Int64) (1 : Int64) (fun r1 => ((r1 = 0 → (K (-1 : Int32) sS)) ∧ (¬ r1 = 0 → (wp_X10_layGraphs sS sL (0 : Int32) (fun r3 u3 => ((r3 = 0 → (K (-2 : Int32) u3)) ∧ (¬ r3 = 0 → (Lp (F_X10_mended_28 sL (fun q17 => ((p1 = 0 → (wp_X10_bits q17.1 (fun r19 => K r19 q17.2))) ∧ (¬ p1 = 0 → (K q17.1 q17.2))))) ((-9 : Int32), (0 : Int32), u3)))))))))
def J_X10_needed_103 (sS : St) (x2 : Int32) (x4 : Int32) (x5 : Int32) (t0 : Int32) (R36 : Int32 × Int32 × Int32 × Int32 × St → Prop) : Prop :=
  ∀ y21 : Int32, y21 = x2 + (1 : Int32) → ((vp_in x5 72 ∧ (∀ z22 : St, z22 = ua sS 6 x5 (2 : Int32) → (∀ y23 : Int32, y23 = x5 + (1 : Int32) → (R36 (y21, t0, x4, y23, z22))))))
def F_X10_needed_36 (sL : Int64) (x1 : Int32) (E121 : Int32 × Int32 × Int32 × St → Prop) (R36 : Int32 × Int32 × Int32 × Int32 × St → Prop) (q6 : Int32 × Int32 × Int32 × Int32 × St) : Prop :=
  ((((9 : Int32) * q6.2.2.2.2 3 0) ≤ q6.2.2.2.1 → (E121 (q6.1, q6.2.1, q6.2.2.1, q6.2.2.2.2))) ∧ (¬ ((9 : Int32) * q6.2.2.2.2 3 0) ≤ q6.2.2.2.1 → (((q6.2.2.1 = 0 → (E121 (q6.1, q6.2.1, q6.2.2.1, q6.2.2.2.2))) ∧ (¬ q6.2.2.1 = 0 → ((vp_in q6.2.2.2.1 72 ∧ (((q6.2.2.2.2 6 q6.2.2.2.1.toNatClampNeg = (2 : Int32) → ((vp_in q6.2.2.2.1 72 ∧ (∀ z11 : St, z11 = ua q6.2.2.2.2 6 q6.2.2.2.1 (1 : Int32) → (wp_X10_layGraphs z11 sL (0 : Int32) (fun r12 u12 => ((r12 = 0 → ((vp_in q6.2.2.2.1 72 ∧ (∀ z14 : St, z14 = ua u12 6 q6.2.2.2.1 (2 : Int32) → (∀ y15 : Int32, y15 = q6.2.2.2.1 + (1 : Int32) → (R36 (q6.1, q6.2.1, r12, y15, z14))))))) ∧ (¬ r12 = 0 → (wp_X10_noneBad u12 sL (-1 : Int32) (fun r16 => ((r16 = 0 → (((q6.1 = x1 → (J_X10_needed_103 u12 q6.1 r12 q6.2.2.2.1 q6.2.2.2.1 R36)) ∧ (¬ q6.1 = x1 → (J_X10_needed_103 u12 q6.1 r12 q6.2.2.2.1 q6.2.1 R36))))) ∧ (¬ r16 = 0 → ((vp_in q6.2.2.2.1 72 ∧ (∀ z18 : St, z18 = ua u12 6 q6.2.2.2.1 (2 : Int32) → (∀ y19 : Int32, y19 = q6.2.2.2.1 + (1 : Int32) → (R36 (q6.1, q6.2.1, r12, y19, z18)))))))))))))))))) ∧ (¬ q6.2.2.2.2 6 q6.2.2.2.1.toNatClampNeg = (2 : Int32) → (∀ y10 : Int32, y10 = q6.2.2.2.1 + (1 : Int32) → (R36 (q6.1, q6.2.1, q6.2.2.1, y10, q6.2.2.2.2)))))))))))))
def J_X10_needed_121 (sS : St) (x1 : Int32) (x2 : Int32) (x3 : Int32) (x4 : Int32) (K : Int32 → St → Prop) : Prop :=
  ((x4 = 0 → (K (-2 : Int32) sS)) ∧ (¬ x4 = 0 → (((0 ≤ x1 → (K x3 sS)) ∧ (¬ 0 ≤ x1 → (K x2 sS))))))
def wp_X10_needed (sS : St) (sL : Int64) (p1 : Int32) (K : Int32 → St → Prop) : Prop :=
  (((-1 : Int32) ≤ p1 → (wp_X10_layGraphs sS sL (0 : Int32) (fun r2 u2 => ((r2 = 0 → (K (-2 : Int32) u2)) ∧ (¬ r2 = 0 → (wp_X10_noneBad u2 sL (-1 : Int32) (fun r4 => ((r4 = 0 → (K (-2 : Int32) u2)) ∧ (¬ r4 = 0 → (Lp (F_X10_needed_36 sL p1 (fun q24 => J_X10_needed_121 q24.2.2.2 p1 q24.1 q24.2.1 q24.2.2.1 K)) ((0 : Int32), (-1 : Int32), (1 : Int32), (0 : Int32), u2))))))))))) ∧ (¬ (-1 : Int32) ≤ p1 → (K (-1 : Int32) sS)))
def wp_X10_most (sS : St) (sL : Int64) (p1 : Int32) (K : Int32 → St → Prop) : Prop :=
  wp_X10_in p1.toInt64 (0 : Int64) (3 : Int64) (fun r1 => ((r1 = 0 → (K (-1 : Int32) sS)) ∧ (¬ r1 = 0 → (∀ y3 : Int32, y3 = sS 9 0 → (∀ z4 : St, z4 = us sS 9 p1 → (K y3 z4))))))
def wp_X10_size (p1 : Int32) (p2 : Int32) (K : Int32 → Prop) : Prop :=
  K ((p1 >>> (((2 : Int32) * p2) &&& 31)) &&& (3 : Int32))
def F_X10_isState_4 (sS : St) (x1 : Int32) (K : Int32 → Prop) (R4 : Int32 × Int32 → Prop) (q1 : Int32 × Int32) : Prop :=
  (((3 : Int32) ≤ q1.2 → ((zb q1.1 ∧ K q1.1))) ∧ (¬ (3 : Int32) ≤ q1.2 → (wp_X10_size x1 q1.2 (fun r3 => ((q1.1 = 0 → (∀ y5 : Int32, y5 = q1.2 + (1 : Int32) → (R4 ((0 : Int32), y5)))) ∧ (¬ q1.1 = 0 → ((vp_in (x1 / (64 : Int32)) 4 ∧ (((sS 2 (x1 / (64 : Int32)).toNatClampNeg ≤ q1.2 → (((r3 = 0 → (∀ y9 : Int32, y9 = q1.2 + (1 : Int32) → (R4 ((1 : Int32), y9)))) ∧ (¬ r3 = 0 → (∀ y8 : Int32, y8 = q1.2 + (1 : Int32) → (R4 ((0 : Int32), y8))))))) ∧ (¬ sS 2 (x1 / (64 : Int32)).toNatClampNeg ≤ q1.2 → (((sS 9 0 < r3 → (∀ y11 : Int32, y11 = q1.2 + (1 : Int32) → (R4 ((0 : Int32), y11)))) ∧ (¬ sS 9 0 < r3 → (∀ y12 : Int32, y12 = q1.2 + (1 : Int32) → (R4 ((1 : Int32), y12)))))))))))))))))
def wp_X10_isState (sS : St) (sL : Int64) (p1 : Int32) (K : Int32 → Prop) : Prop :=
  Lp (F_X10_isState_4 sS p1 K) ((1 : Int32), (0 : Int32))
def F_X10_leads_36 (sS : St) (x1 : Int32) (x2 : Int32) (x3 : Int32) (K : Int32 → Prop) (R36 : Int32 × Int32 → Prop) (q2 : Int32 × Int32) : Prop :=
  (((9 : Int32) ≤ q2.2 → ((zb q2.1 ∧ K q2.1))) ∧ (¬ (9 : Int32) ≤ q2.2 → (((q2.1 = 0 → ((zb q2.1 ∧ K q2.1))) ∧ (¬ q2.1 = 0 → (wp_X10_size x2 (q2.2 / (3 : Int32)) (fun r5 => wp_X10_size x3 (q2.2 - q2.2 / (3 : Int32) * (3 : Int32)) (fun r6 => (vp_in (((9 : Int32) * x1) + q2.2) 72 ∧ (((sS 6 (((9 : Int32) * x1) + q2.2).toNatClampNeg = 0 → (∀ y8 : Int32, y8 = q2.2 + (1 : Int32) → (R36 ((1 : Int32), y8)))) ∧ (¬ sS 6 (((9 : Int32) * x1) + q2.2).toNatClampNeg = 0 → ((vp_in (((9 : Int32) * x1) + q2.2) 72 ∧ (((sS 6 (((9 : Int32) * x1) + q2.2).toNatClampNeg = (2 : Int32) → (((r5 ≤ r6 → (∀ y14 : Int32, y14 = q2.2 + (1 : Int32) → (R36 ((0 : Int32), y14)))) ∧ (¬ r5 ≤ r6 → (∀ y15 : Int32, y15 = q2.2 + (1 : Int32) → (R36 ((1 : Int32), y15))))))) ∧ (¬ sS 6 (((9 : Int32) * x1) + q2.2).toNatClampNeg = (2 : Int32) → (((r5 < r6 → (∀ y11 : Int32, y11 = q2.2 + (1 : Int32) → (R36 ((0 : Int32), y11)))) ∧ (¬ r5 < r6 → (∀ y12 : Int32, y12 = q2.2 + (1 : Int32) → (R36 ((1 : Int32), y12)))))))))))))))))))))))
def J_X10_leads_31 (sS : St) (x1 : Int32) (x2 : Int32) (x3 : Int32) (t0 : Int32) (K : Int32 → Prop) : Prop :=
  Lp (F_X10_leads_36 sS x1 x2 x3 K) (t0, (0 : Int32))
def J_X10_leads_30 (sS : St) (x1 : Int32) (x2 : Int32) (x3 : Int32) (K : Int32 → Prop) : Prop :=
  J_X10_leads_31 sS x1 x2 x3 (0 : Int32) K
def wp_X10_leads (sS : St) (sL : Int64) (p1 : Int32) (p2 : Int32) (p3 : Int32) (K : Int32 → Prop) : Prop :=
  (vp_in p1 8 ∧ (((sS 4 p1.toNatClampNeg = (p2 / (64 : Int32)) → ((vp_in p1 8 ∧ (((sS 5 p1.toNatClampNeg = (p3 / (64 : Int32)) → (J_X10_leads_31 sS p1 p2 p3 (1 : Int32) K)) ∧ (¬ sS 5 p1.toNatClampNeg = (p3 / (64 : Int32)) → (J_X10_leads_30 sS p1 p2 p3 K))))))) ∧ (¬ sS 4 p1.toNatClampNeg = (p2 / (64 : Int32)) → (J_X10_leads_30 sS p1 p2 p3 K)))))
def F_X10_goesTo_5 (sS : St) (sL : Int64) (x1 : Int32) (x2 : Int32) (K : Int32 → Prop) (R5 : Int32 × Int32 → Prop) (q1 : Int32 × Int32) : Prop :=
  ((sS 3 0 ≤ q1.2 → ((zb q1.1 ∧ K q1.1))) ∧ (¬ sS 3 0 ≤ q1.2 → (((q1.1 = 0 → (wp_X10_leads sS sL q1.2 x1 x2 (fun r4 => ∀ y5 : Int32, y5 = q1.2 + (1 : Int32) → (R5 (r4, y5))))) ∧ (¬ q1.1 = 0 → ((zb q1.1 ∧ K q1.1)))))))
def wp_X10_goesTo (sS : St) (sL : Int64) (p1 : Int32) (p2 : Int32) (K : Int32 → Prop) : Prop :=
  Lp (F_X10_goesTo_5 sS sL p1 p2 K) ((0 : Int32), (0 : Int32))
def wp_X10_stateOf (sS : St) (sL : Int64) (p1 : Int32) (p2 : Int32) (p3 : Int32) (p4 : Int32) (K : Int32 → Prop) : Prop :=
  wp_X10_isAct p1 (fun r1 => ((r1 = 0 → (K (-1 : Int32))) ∧ (¬ r1 = 0 → (wp_X10_in p2.toInt64 (0 : Int64) (3 : Int64) (fun r3 => ((r3 = 0 → (K (-1 : Int32))) ∧ (¬ r3 = 0 → (wp_X10_in p3.toInt64 (0 : Int64) (3 : Int64) (fun r5 => ((r5 = 0 → (K (-1 : Int32))) ∧ (¬ r5 = 0 → (wp_X10_in p4.toInt64 (0 : Int64) (3 : Int64) (fun r7 => ((r7 = 0 → (K (-1 : Int32))) ∧ (¬ r7 = 0 → (∀ y9 : Int32, y9 = (((((64 : Int32) * p1) + p2) + ((4 : Int32) * p3)) + ((16 : Int32) * p4)) → (wp_X10_isState sS sL y9 (fun r10 => ((r10 = 0 → (K (-1 : Int32))) ∧ (¬ r10 = 0 → (K y9)))))))))))))))))))))
def F_X10_longest_21 (E43 : St → Prop) (R21 : Int32 × St → Prop) (q3 : Int32 × St) : Prop :=
  (((256 : Int32) ≤ q3.1 → (E43 q3.2)) ∧ (¬ (256 : Int32) ≤ q3.1 → ((vp_in q3.1 256 ∧ (∀ z5 : St, z5 = ua q3.2 33 q3.1 (-1 : Int32) → (∀ y6 : Int32, y6 = q3.1 + (1 : Int32) → (R21 (y6, z5))))))))
def F_X10_longest_90 (sS : St) (sL : Int64) (x7 : Int32) (E173 : Int32 → Prop) (R90 : Int32 × Int32 → Prop) (q17 : Int32 × Int32) : Prop :=
  (((256 : Int32) ≤ q17.2 → (E173 q17.1)) ∧ (¬ (256 : Int32) ≤ q17.2 → (((q17.1 < 0 → (E173 q17.1)) ∧ (¬ q17.1 < 0 → (wp_X10_isState sS sL q17.2 (fun r20 => ((r20 = 0 → (∀ y22 : Int32, y22 = q17.2 + (1 : Int32) → (R90 (q17.1, y22)))) ∧ (¬ r20 = 0 → (wp_X10_goesTo sS sL x7 q17.2 (fun r23 => ((r23 = 0 → (∀ y25 : Int32, y25 = q17.2 + (1 : Int32) → (R90 (q17.1, y25)))) ∧ (¬ r23 = 0 → ((vp_in q17.2 256 ∧ (((0 ≤ sS 33 q17.2.toNatClampNeg → ((vp_in q17.2 256 ∧ ((((sS 33 q17.2.toNatClampNeg + (1 : Int32)) ≤ q17.1 → (∀ y28 : Int32, y28 = q17.2 + (1 : Int32) → (R90 (q17.1, y28)))) ∧ (¬ (sS 33 q17.2.toNatClampNeg + (1 : Int32)) ≤ q17.1 → ((vp_in q17.2 256 ∧ (∀ y29 : Int32, y29 = (sS 33 q17.2.toNatClampNeg + (1 : Int32)) → (∀ y30 : Int32, y30 = q17.2 + (1 : Int32) → (R90 (y29, y30)))))))))))) ∧ (¬ 0 ≤ sS 33 q17.2.toNatClampNeg → (∀ y31 : Int32, y31 = q17.2 + (1 : Int32) → (R90 ((-1 : Int32), y31)))))))))))))))))))))
def J_X10_longest_173 (sS : St) (x6 : Int32) (x7 : Int32) (x8 : Int32) (R57 : Int32 × Int32 × St → Prop) : Prop :=
  (vp_in x7 256 ∧ (∀ z33 : St, z33 = ua sS 33 x7 x8 → (((x6 = 0 → (((x8 < 0 → (∀ y37 : Int32, y37 = x7 + (1 : Int32) → (R57 ((0 : Int32), y37, z33)))) ∧ (¬ x8 < 0 → (∀ y38 : Int32, y38 = x7 + (1 : Int32) → (R57 ((1 : Int32), y38, z33))))))) ∧ (¬ x6 = 0 → (∀ y35 : Int32, y35 = x7 + (1 : Int32) → (R57 ((1 : Int32), y35, z33))))))))
def F_X10_longest_57 (sL : Int64) (R46 : Int32 × St → Prop) (R57 : Int32 × Int32 × St → Prop) (q10 : Int32 × Int32 × St) : Prop :=
  (((256 : Int32) ≤ q10.2.1 → (R46 (q10.1, q10.2.2))) ∧ (¬ (256 : Int32) ≤ q10.2.1 → ((vp_in q10.2.1 256 ∧ (((0 ≤ q10.2.2 33 q10.2.1.toNatClampNeg → (∀ y13 : Int32, y13 = q10.2.1 + (1 : Int32) → (R57 (q10.1, y13, q10.2.2)))) ∧ (¬ 0 ≤ q10.2.2 33 q10.2.1.toNatClampNeg → (wp_X10_isState q10.2.2 sL q10.2.1 (fun r14 => ((r14 = 0 → (∀ y16 : Int32, y16 = q10.2.1 + (1 : Int32) → (R57 (q10.1, y16, q10.2.2)))) ∧ (¬ r14 = 0 → (Lp (F_X10_longest_90 q10.2.2 sL q10.2.1 (fun q32 => J_X10_longest_173 q10.2.2 q10.1 q10.2.1 q32 R57)) ((0 : Int32), (0 : Int32))))))))))))))
def F_X10_longest_46 (sL : Int64) (E208 : St → Prop) (R46 : Int32 × St → Prop) (q8 : Int32 × St) : Prop :=
  ((q8.1 = 0 → (E208 q8.2)) ∧ (¬ q8.1 = 0 → (Lp (F_X10_longest_57 sL R46) ((0 : Int32), (0 : Int32), q8.2))))
def wp_X10_longest (sS : St) (sL : Int64) (p1 : Int32) (p2 : Int32) (p3 : Int32) (p4 : Int32) (K : Int32 → St → Prop) : Prop :=
  wp_X10_stateOf sS sL p1 p2 p3 p4 (fun r1 => ((0 ≤ r1 → (Lp (F_X10_longest_21 (fun q7 => Lp (F_X10_longest_46 sL (fun q39 => (vp_in r1 256 ∧ (((0 ≤ q39 33 r1.toNatClampNeg → ((vp_in r1 256 ∧ (K (q39 33 r1.toNatClampNeg) q39)))) ∧ (¬ 0 ≤ q39 33 r1.toNatClampNeg → (K (-4 : Int32) q39))))))) ((1 : Int32), q7))) ((0 : Int32), sS))) ∧ (¬ 0 ≤ r1 → (K (-1 : Int32) sS))))
def F_X10_next_24 (sS : St) (sL : Int64) (x5 : Int32) (K : Int32 → Prop) (R24 : Int32 × Int32 → Prop) (q3 : Int32 × Int32) : Prop :=
  (((256 : Int32) ≤ q3.2 → (K q3.1)) ∧ (¬ (256 : Int32) ≤ q3.2 → (wp_X10_isState sS sL q3.2 (fun r5 => ((r5 = 0 → (∀ y7 : Int32, y7 = (q3.1 + (0 : Int32)) → (∀ y8 : Int32, y8 = q3.2 + (1 : Int32) → (R24 (y7, y8))))) ∧ (¬ r5 = 0 → (wp_X10_goesTo sS sL x5 q3.2 (fun r9 => ((r9 = 0 → (∀ y11 : Int32, y11 = (q3.1 + (0 : Int32)) → (∀ y12 : Int32, y12 = q3.2 + (1 : Int32) → (R24 (y11, y12))))) ∧ (¬ r9 = 0 → (∀ y13 : Int32, y13 = (q3.1 + (1 : Int32)) → (∀ y14 : Int32, y14 = q3.2 + (1 : Int32) → (R24 (y13, y14))))))))))))))
def wp_X10_next (sS : St) (sL : Int64) (p1 : Int32) (p2 : Int32) (p3 : Int32) (p4 : Int32) (K : Int32 → Prop) : Prop :=
  wp_X10_stateOf sS sL p1 p2 p3 p4 (fun r1 => ((0 ≤ r1 → (Lp (F_X10_next_24 sS sL r1 K) ((0 : Int32), (0 : Int32)))) ∧ (¬ 0 ≤ r1 → (K (-1 : Int32)))))
def F_X10_arcsOf_5 (sS : St) (x1 : Int32) (x2 : Int32) (K : Int32 → Prop) (R5 : Int32 × Int32 → Prop) (q1 : Int32 × Int32) : Prop :=
  (((9 : Int32) ≤ q1.2 → (K q1.1)) ∧ (¬ (9 : Int32) ≤ q1.2 → ((vp_in (((9 : Int32) * x1) + q1.2) 72 ∧ (((sS 6 (((9 : Int32) * x1) + q1.2).toNatClampNeg < x2 → (∀ y4 : Int32, y4 = (q1.1 + (0 : Int32)) → (∀ y5 : Int32, y5 = q1.2 + (1 : Int32) → (R5 (y4, y5))))) ∧ (¬ sS 6 (((9 : Int32) * x1) + q1.2).toNatClampNeg < x2 → (∀ y6 : Int32, y6 = (q1.1 + (1 : Int32)) → (∀ y7 : Int32, y7 = q1.2 + (1 : Int32) → (R5 (y6, y7)))))))))))
def wp_X10_arcsOf (sS : St) (sL : Int64) (p1 : Int32) (p2 : Int32) (K : Int32 → Prop) : Prop :=
  Lp (F_X10_arcsOf_5 sS p1 p2 K) ((0 : Int32), (0 : Int32))
def wp_X10_plainWeight (sS : St) (sL : Int64) (p1 : Int32) (K : Int32 → Int64 → Prop) : Prop :=
  wp_X10_arcsOf sS (sL + (1 : Int64)) p1 (1 : Int32) (fun r1 => K r1 (sL + (1 : Int64)))
def wp_X10_selfWeight (sS : St) (sL : Int64) (p1 : Int32) (K : Int32 → Int64 → Prop) : Prop :=
  wp_X10_plainWeight sS (sL + (10 : Int64)) p1 (fun r1 u1 => wp_X10_arcsOf sS u1 p1 (2 : Int32) (fun r2 => K (r1 + r2) u1))
def wp_X10_otherWeight (sS : St) (sL : Int64) (p1 : Int32) (K : Int32 → Int64 → Prop) : Prop :=
  wp_X10_plainWeight sS (sL + (100 : Int64)) p1 (fun r1 u1 => K ((2 : Int32) * r1) u1)
def J_X10_weight_124 (sS : St) (sL : Int64) (x2 : Int32) (t0 : Int32) (t1 : Int32) (K : Int32 → Int64 → Prop) : Prop :=
  (vp_in (((9 : Int32) * x2) + (8 : Int32)) 72 ∧ (((sS 6 (((9 : Int32) * x2) + (8 : Int32)).toNatClampNeg ≤ 0 → (K ((t0 - t1) - (0 : Int32)) sL)) ∧ (¬ sS 6 (((9 : Int32) * x2) + (8 : Int32)).toNatClampNeg ≤ 0 → (K ((t0 - t1) - (1 : Int32)) sL)))))
def J_X10_weight_104 (sS : St) (sL : Int64) (x2 : Int32) (t0 : Int32) (t1 : Int32) (K : Int32 → Int64 → Prop) : Prop :=
  (vp_in (((9 : Int32) * x2) + (4 : Int32)) 72 ∧ (((sS 6 (((9 : Int32) * x2) + (4 : Int32)).toNatClampNeg ≤ 0 → (J_X10_weight_124 sS sL x2 (t0 - t1) (0 : Int32) K)) ∧ (¬ sS 6 (((9 : Int32) * x2) + (4 : Int32)).toNatClampNeg ≤ 0 → (J_X10_weight_124 sS sL x2 (t0 - t1) (1 : Int32) K)))))
def wp_X10_weight (sS : St) (sL : Int64) (p1 : Int32) (p2 : Int32) (K : Int32 → Int64 → Prop) : Prop :=
  wp_X10_in p1.toInt64 (0 : Int64) (4 : Int64) (fun r1 => ((r1 = 0 → (K (-1 : Int32) sL)) ∧ (¬ r1 = 0 → (wp_X10_isCall sS sL p2 (fun r3 => ((r3 = 0 → (K (-1 : Int32) sL)) ∧ (¬ r3 = 0 → (((p1 = (0 : Int32) → (wp_X10_plainWeight sS sL p2 (fun r6 u6 => K r6 u6))) ∧ (¬ p1 = (0 : Int32) → ((p1 = (1 : Int32) → (wp_X10_selfWeight sS sL p2 (fun r8 u8 => K r8 u8))) ∧ (¬ p1 = (1 : Int32) → ((p1 = (2 : Int32) → (wp_X10_otherWeight sS sL p2 (fun r10 u10 => K r10 u10))) ∧ (¬ p1 = (2 : Int32) → ((p1 = (3 : Int32) → (wp_X10_selfWeight sS (sL + (1000 : Int64)) p2 (fun r12 u12 => (vp_in ((9 : Int32) * p2) 72 ∧ (((sS 6 ((9 : Int32) * p2).toNatClampNeg ≤ 0 → (J_X10_weight_104 sS u12 p2 r12 (0 : Int32) K)) ∧ (¬ sS 6 ((9 : Int32) * p2).toNatClampNeg ≤ 0 → (J_X10_weight_104 sS u12 p2 r12 (1 : Int32) K)))))))) ∧ (¬ p1 = (3 : Int32) → (wp_X10_otherWeight sS (sL + (10000 : Int64)) p2 (fun r16 u16 => (vp_in p2 8 ∧ ((vp_in (sS 5 p2.toNatClampNeg) 4 ∧ (K (r16 + sS 2 (sS 5 p2.toNatClampNeg).toNatClampNeg) u16))))))))))))))))))))))
def F_X10_count_80 (sS : St) (sL : Int64) (K : Int32 → Prop) (R80 : Int32 × Int32 → Prop) (q5 : Int32 × Int32) : Prop :=
  ((sS 3 0 ≤ q5.2 → (K q5.1)) ∧ (¬ sS 3 0 ≤ q5.2 → (wp_X10_arcsOf sS sL q5.2 (1 : Int32) (fun r7 => ∀ y8 : Int32, y8 = (q5.1 + r7) → (∀ y9 : Int32, y9 = q5.2 + (1 : Int32) → (R80 (y8, y9)))))))
def wp_X10_count (sS : St) (sL : Int64) (p1 : Int32) (K : Int32 → Prop) : Prop :=
  ((p1 = (0 : Int32) → (K (sS 3 0))) ∧ (¬ p1 = (0 : Int32) → ((p1 = (1 : Int32) → (K (((sS 2 0 + sS 2 1) + sS 2 2) + sS 2 3))) ∧ (¬ p1 = (1 : Int32) → ((p1 = (2 : Int32) → (K (sS 7 0))) ∧ (¬ p1 = (2 : Int32) → ((p1 = (3 : Int32) → (Lp (F_X10_count_80 sS sL K) ((0 : Int32), (0 : Int32)))) ∧ (¬ p1 = (3 : Int32) → ((p1 = (4 : Int32) → (K (sS 0 0))) ∧ (¬ p1 = (4 : Int32) → ((p1 = (5 : Int32) → (K (sS 9 0))) ∧ (¬ p1 = (5 : Int32) → (K (-1 : Int32))))))))))))))
def wp_X10_trace (sS : St) (sL : Int64) (K : Int64 → Prop) : Prop :=
  K sL
