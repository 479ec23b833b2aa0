/-! what each method does, as a function of the cells, by program out of its bytecode -/
-- OvenHouse$Best.become
def fX0_become (F : Nat) (k1 : Nat) (x2 : Int32) (μ : Mem) : Option Mem := cpy μ k1 0 54 0 x2 (fun m1 => st m1 53 1 x2 (fun m2 => st m2 53 2 1 (fun m3 => some m3)))
-- OvenHouse$Day.follow
def fX1_follow (F : Nat) (x1 : Int32) (x2 : Int32) (μ : Mem) : Option Mem := st μ 55 5 x1 (fun m1 => st m1 55 6 x2 (fun m2 => some m2))
-- OvenHouse$Day.lay
def fX1_lay_62 (F : Nat)  (y1 : Int32) (y2 : Int32) (y3 : Int32) (y5 : Int32) (z0 : Int32) (z1 : Int32) (μ : Mem) : Option Mem := wr μ 56 z1 z0 (fun m3 => rd m3 56 y1 (fun v4 => wr m3 57 y1 (v4 + y2) (fun m5 => rd m5 57 y1 (fun v6 => wr m5 58 y1 (imax v6 y5) (fun m7 => rd m7 58 y1 (fun v8 => wr m7 59 y1 (v8 + y3) (fun m9 => rd m9 57 y1 (fun v10 => wr m9 60 y1 v10 (fun m11 => (if (m11 55 5) = 2 then (if y1 < (m11 55 6) then some m11 else rd m11 57 y1 (fun v12 => rd m11 58 (y1 - (m11 55 6)) (fun v13 => wr m11 60 y1 (imax v12 v13) (fun m14 => some m14)))) else some m11))))))))))
def fX1_lay_34 (F : Nat)  (y1 : Int32) (y2 : Int32) (y3 : Int32) (y4 : Int32) (z0 : Int32) (μ : Mem) : Option Mem := (if (μ 55 5) = 0 then fX1_lay_62 F y1 y2 y3 z0 (imax y4 (z0 - y2)) y1 μ else fX1_lay_62 F y1 y2 y3 z0 y4 y1 μ)
def fX1_lay_16 (F : Nat)  (y1 : Int32) (y2 : Int32) (y3 : Int32) (z0 : Int32) (μ : Mem) : Option Mem := (if y1 = 0 then fX1_lay_34 F y1 y2 y3 z0 0 μ else rd μ 59 (y1 - 1) (fun v2 => fX1_lay_34 F y1 y2 y3 z0 v2 μ))
def fX1_lay (F : Nat) (x1 : Int32) (x2 : Int32) (x3 : Int32) (μ : Mem) : Option Mem := (if x1 = 0 then fX1_lay_16 F x1 x2 x3 0 μ else rd μ 60 (x1 - 1) (fun v1 => fX1_lay_16 F x1 x2 x3 v1 μ))
-- OvenHouse$Day.endOf
def fX1_endOf_3_b (F : Nat) (k2 : Nat) (rec3 : Int32 → Mem → Option (Int32 × Mem)) (y4 : Int32) (μ : Mem) : Option (Int32 × Mem) := (if (μ 9 6) ≤ y4 then (if (μ 9 6) = 0 then some (0, μ) else rd μ 59 ((μ 9 6) - 1) (fun v1 => some (v1, μ))) else rd μ k2 y4 (fun v2 => rd μ 10 v2 (fun v3 => rd μ k2 y4 (fun v4 => rd μ 11 v4 (fun v5 => cav (fX1_lay F y4 v3 v5 μ) (fun m6 => rec3 (y4 + 1) m6))))))
def fX1_endOf_3 (F : Nat) (k2 : Nat) : Nat → Int32 → Mem → Option (Int32 × Mem)
  | 0 => fun _ _ => none
  | n + 1 => fX1_endOf_3_b F k2  (fX1_endOf_3 F k2  n)
def fX1_endOf (F : Nat) (k2 : Nat) (x3 : Int32) (μ : Mem) : Option (Int32 × Mem) := fX1_endOf_3 F k2 F x3 μ
-- OvenHouse$Loaves.become
def fX3_become (F : Nat) (k0 : Nat) (k1 : Nat) (μ : Mem) : Option Mem := st μ k0 6 (μ k1 6) (fun m1 => cpy m1 (k1 + 1 + 0) 0 (k0 + 1 + 0) 0 (m1 k0 6) (fun m2 => cpy m2 (k1 + 1 + 1) 0 (k0 + 1 + 1) 0 (m2 k0 6) (fun m3 => cpy m3 (k1 + 1 + 2) 0 (k0 + 1 + 2) 0 (m3 k0 6) (fun m4 => cpy m4 (k1 + 1 + 3) 0 (k0 + 1 + 3) 0 (m4 k0 6) (fun m5 => cpy m5 (k1 + 1 + 4) 0 (k0 + 1 + 4) 0 (m5 k0 6) (fun m6 => some m6))))))
-- OvenHouse$History.keep
def fX2_keep_34 (F : Nat)  (z0 : Int32) (μ : Mem) : Option Mem := st μ 16 1 z0 (fun m3 => st m3 16 2 (imin ((m3 16 2) + 1) 5) (fun m4 => some m4))
def fX2_keep (F : Nat) (μ : Mem) : Option Mem := rr 17 (μ 16 1) (fun t1 => cav (fX3_become F t1 9 μ) (fun m2 => (if 5 ≤ ((m2 16 1) + 1) then fX2_keep_34 F 0 m2 else fX2_keep_34 F ((m2 16 1) + 1) m2)))
-- OvenHouse$History.giveBack
def fX2_giveBack_18 (F : Nat)  (z0 : Int32) (μ : Mem) : Option Mem := st μ 16 1 z0 (fun m1 => st m1 16 2 ((m1 16 2) - 1) (fun m2 => rr 17 (m2 16 1) (fun t3 => cav (fX3_become F 9 t3 m2) (fun m4 => some m4))))
def fX2_giveBack (F : Nat) (μ : Mem) : Option Mem := (if (μ 16 1) ≤ 0 then fX2_giveBack_18 F 4 μ else fX2_giveBack_18 F ((μ 16 1) - 1) μ)
-- OvenHouse$Loaves.has
def fX3_has (F : Nat) (x1 : Int32) (μ : Mem) : Option (Int32 × Mem) := (if x1 < 0 then zr 0 μ else (if (μ 9 6) ≤ x1 then zr 0 μ else zr 1 μ))
-- OvenHouse$Loaves.add
def fX3_add (F : Nat) (x1 : Int32) (x2 : Int32) (μ : Mem) : Option Mem := wr μ 10 (μ 9 6) x1 (fun m1 => wr m1 11 (m1 9 6) x2 (fun m2 => wr m2 12 (m2 9 6) 0 (fun m3 => wr m3 13 (m3 9 6) 0 (fun m4 => wr m4 14 (m4 9 6) (m4 9 6) (fun m5 => st m5 9 6 ((m5 9 6) + 1) (fun m6 => some m6))))))
-- OvenHouse$Loaves.kindOf
def fX3_kindOf (F : Nat) (x1 : Int32) (μ : Mem) : Option (Int32 × Mem) := rd μ 10 x1 (fun v1 => (if v1 = 0 then some (3, μ) else rd μ 11 x1 (fun v2 => (if v2 = 0 then some (4, μ) else rd μ 10 x1 (fun v3 => rd μ 11 x1 (fun v4 => (if v4 < v3 then some (2, μ) else some (1, μ))))))))
-- OvenHouse$Loaves.placeOf
def fX3_placeOf_2_b (F : Nat)  (rec2 : Int32 → Int32 → Mem → Option (Int32 × Mem)) (y1 : Int32) (y2 : Int32) (μ : Mem) : Option (Int32 × Mem) := (if (μ 9 6) ≤ y2 then some ((-1), μ) else rd μ 14 y2 (fun v1 => (if v1 = y1 then some (y2, μ) else rec2 y1 (y2 + 1) μ)))
def fX3_placeOf_2 (F : Nat)  : Nat → Int32 → Int32 → Mem → Option (Int32 × Mem)
  | 0 => fun _ _ _ => none
  | n + 1 => fX3_placeOf_2_b F   (fX3_placeOf_2 F   n)
def fX3_placeOf (F : Nat) (x1 : Int32) (μ : Mem) : Option (Int32 × Mem) := fX3_placeOf_2 F F x1 0 μ
-- OvenHouse$Loaves.sum
def fX3_sum_4_b (F : Nat) (k1 : Nat) (rec4 : Int32 → Int32 → Mem → Option (Int32 × Mem)) (y2 : Int32) (y3 : Int32) (μ : Mem) : Option (Int32 × Mem) := (if (μ 9 6) ≤ y3 then some (y2, μ) else rd μ k1 y3 (fun v1 => rec4 (y2 + v1) (y3 + 1) μ))
def fX3_sum_4 (F : Nat) (k1 : Nat) : Nat → Int32 → Int32 → Mem → Option (Int32 × Mem)
  | 0 => fun _ _ _ => none
  | n + 1 => fX3_sum_4_b F k1  (fX3_sum_4 F k1  n)
def fX3_sum (F : Nat) (k1 : Nat) (μ : Mem) : Option (Int32 × Mem) := fX3_sum_4 F k1 F 0 0 μ
-- OvenHouse$Loaves.leastOf
def fX3_leastOf_5_b (F : Nat) (k1 : Nat) (rec5 : Int32 → Int32 → Mem → Option (Int32 × Mem)) (y2 : Int32) (y3 : Int32) (μ : Mem) : Option (Int32 × Mem) := (if (μ 9 6) ≤ y3 then some (y2, μ) else rd μ k1 y3 (fun v1 => rec5 (imin y2 v1) (y3 + 1) μ))
def fX3_leastOf_5 (F : Nat) (k1 : Nat) : Nat → Int32 → Int32 → Mem → Option (Int32 × Mem)
  | 0 => fun _ _ _ => none
  | n + 1 => fX3_leastOf_5_b F k1  (fX3_leastOf_5 F k1  n)
def fX3_leastOf (F : Nat) (k1 : Nat) (μ : Mem) : Option (Int32 × Mem) := fX3_leastOf_5 F k1 F 100000 0 μ
-- OvenHouse$Loaves.isOrder
def fX3_isOrder_2_b (F : Nat) (k1 : Nat) (rec2 : Int32 → Mem → Option (Int32 × Mem)) (y2 : Int32) (μ : Mem) : Option (Int32 × Mem) := (if (μ 9 6) ≤ y2 then zr 1 μ else rd μ k1 y2 (fun v1 => rd μ 14 y2 (fun v2 => (if v1 = v2 then rec2 (y2 + 1) μ else zr 0 μ))))
def fX3_isOrder_2 (F : Nat) (k1 : Nat) : Nat → Int32 → Mem → Option (Int32 × Mem)
  | 0 => fun _ _ => none
  | n + 1 => fX3_isOrder_2_b F k1  (fX3_isOrder_2 F k1  n)
def fX3_isOrder (F : Nat) (k1 : Nat) (μ : Mem) : Option (Int32 × Mem) := fX3_isOrder_2 F k1 F 0 μ
-- OvenHouse.rank
def fX8_rank_45 (F : Nat) (k0 : Nat) (k2 : Nat) (rec2 : Int32 → Int32 → Mem → Option Mem) (y1 : Int32) (y3 : Int32) (y4 : Int32) (μ : Mem) : Option Mem := wr μ k2 y4 y3 (fun m6 => rec2 y1 (y3 + 1) m6)
def fX8_rank_10_b (F : Nat) (k0 : Nat) (k2 : Nat) (rec2 : Int32 → Int32 → Mem → Option Mem) (rec10 : Int32 → Int32 → Int32 → Mem → Option Mem) (y1 : Int32) (y3 : Int32) (y4 : Int32) (μ : Mem) : Option Mem := (if y4 ≤ 0 then fX8_rank_45 F k0 k2 rec2 y1 y3 y4 μ else rd μ k2 (y4 - 1) (fun v1 => rd μ k0 v1 (fun v2 => rd μ k0 y3 (fun v3 => (if v2 ≤ v3 then fX8_rank_45 F k0 k2 rec2 y1 y3 y4 μ else rd μ k2 (y4 - 1) (fun v4 => wr μ k2 y4 v4 (fun m5 => rec10 y1 y3 (y4 + (-1)) m5)))))))
def fX8_rank_10 (F : Nat) (k0 : Nat) (k2 : Nat) (rec2 : Int32 → Int32 → Mem → Option Mem) : Nat → Int32 → Int32 → Int32 → Mem → Option Mem
  | 0 => fun _ _ _ _ => none
  | n + 1 => fX8_rank_10_b F k0 k2 rec2 (fX8_rank_10 F k0 k2 rec2 n)
def fX8_rank_2_b (F : Nat) (k0 : Nat) (k2 : Nat) (rec2 : Int32 → Int32 → Mem → Option Mem) (y1 : Int32) (y3 : Int32) (μ : Mem) : Option Mem := (if y1 ≤ y3 then some μ else fX8_rank_10 F k0 k2 rec2 F y1 y3 y3 μ)
def fX8_rank_2 (F : Nat) (k0 : Nat) (k2 : Nat) : Nat → Int32 → Int32 → Mem → Option Mem
  | 0 => fun _ _ _ => none
  | n + 1 => fX8_rank_2_b F k0 k2  (fX8_rank_2 F k0 k2  n)
def fX8_rank (F : Nat) (k0 : Nat) (x1 : Int32) (k2 : Nat) (μ : Mem) : Option Mem := fX8_rank_2 F k0 k2 F x1 0 μ
-- OvenHouse$Loaves.byRule
def fX3_byRule_2_b (F : Nat) (k1 : Nat) (rec2 : Int32 → Mem → Option Mem) (y2 : Int32) (μ : Mem) : Option Mem := (if (μ 9 6) ≤ y2 then cav (fX8_rank F 15 (μ 9 6) k1 μ) (fun m1 => some m1) else rd μ 10 y2 (fun v2 => rd μ 11 y2 (fun v3 => (if v3 < v2 then rd μ 11 y2 (fun v4 => wr μ 15 y2 (200001 - v4) (fun m5 => rec2 (y2 + 1) m5)) else rd μ 10 y2 (fun v6 => wr μ 15 y2 v6 (fun m7 => rec2 (y2 + 1) m7))))))
def fX3_byRule_2 (F : Nat) (k1 : Nat) : Nat → Int32 → Mem → Option Mem
  | 0 => fun _ _ => none
  | n + 1 => fX3_byRule_2_b F k1  (fX3_byRule_2 F k1  n)
def fX3_byRule (F : Nat) (k1 : Nat) (μ : Mem) : Option Mem := fX3_byRule_2 F k1 F 0 μ
-- OvenHouse.exchange
def fX8_exchange (F : Nat) (k0 : Nat) (x1 : Int32) (x2 : Int32) (μ : Mem) : Option Mem := rd μ k0 x1 (fun v1 => rd μ k0 x2 (fun v2 => wr μ k0 x1 v2 (fun m3 => wr m3 k0 x2 v1 (fun m4 => some m4))))
-- OvenHouse$Loaves.turnAbout
def fX3_turnAbout_70_b (F : Nat)  (rec70 : Int32 → Mem → Option Mem) (y1 : Int32) (μ : Mem) : Option Mem := (if (((μ 9 6) - 1) - y1) ≤ y1 then some μ else cav (fX8_exchange F 14 y1 (((μ 9 6) - 1) - y1) μ) (fun m9 => rec70 (y1 + 1) m9))
def fX3_turnAbout_70 (F : Nat)  : Nat → Int32 → Mem → Option Mem
  | 0 => fun _ _ => none
  | n + 1 => fX3_turnAbout_70_b F   (fX3_turnAbout_70 F   n)
def fX3_turnAbout_2_b (F : Nat)  (rec2 : Int32 → Mem → Option Mem) (y1 : Int32) (μ : Mem) : Option Mem := (if (μ 9 6) ≤ y1 then fX3_turnAbout_70 F F 0 μ else rd μ 10 y1 (fun v1 => rd μ 11 y1 (fun v2 => wr μ 10 y1 v2 (fun m3 => wr m3 11 y1 v1 (fun m4 => rd m4 12 y1 (fun v5 => rd m4 13 y1 (fun v6 => wr m4 12 y1 v6 (fun m7 => wr m7 13 y1 v5 (fun m8 => rec2 (y1 + 1) m8)))))))))
def fX3_turnAbout_2 (F : Nat)  : Nat → Int32 → Mem → Option Mem
  | 0 => fun _ _ => none
  | n + 1 => fX3_turnAbout_2_b F   (fX3_turnAbout_2 F   n)
def fX3_turnAbout (F : Nat) (μ : Mem) : Option Mem := fX3_turnAbout_2 F F 0 μ
-- OvenHouse$Prices.hasLossyStretch
def fX4_hasLossyStretch_2_b (F : Nat)  (rec2 : Int32 → Mem → Option (Int32 × Mem)) (y1 : Int32) (μ : Mem) : Option (Int32 × Mem) := (if 8 ≤ y1 then zr 0 μ else rd μ 74 y1 (fun v1 => rd μ 75 y1 (fun v2 => (if 0 ≤ (v1 + v2) then rec2 (y1 + 1) μ else zr 1 μ))))
def fX4_hasLossyStretch_2 (F : Nat)  : Nat → Int32 → Mem → Option (Int32 × Mem)
  | 0 => fun _ _ => none
  | n + 1 => fX4_hasLossyStretch_2_b F   (fX4_hasLossyStretch_2 F   n)
def fX4_hasLossyStretch (F : Nat) (μ : Mem) : Option (Int32 × Mem) := fX4_hasLossyStretch_2 F F 0 μ
-- OvenHouse$Prices.below
def fX4_below_37 (F : Nat) (k0 : Nat) (rec4 : Int32 → Int32 → Int32 → Mem → Option (Int32 × Mem)) (y1 : Int32) (y2 : Int32) (y3 : Int32) (y4 : Int32) (z0 : Int32) (μ : Mem) : Option (Int32 × Mem) := rd μ k0 y3 (fun v1 => rec4 y1 (y2 + (v1 * (imax 0 (z0 - y4)))) (y3 + 1) μ)
def fX4_below_4_b (F : Nat) (k0 : Nat) (rec4 : Int32 → Int32 → Int32 → Mem → Option (Int32 × Mem)) (y1 : Int32) (y2 : Int32) (y3 : Int32) (μ : Mem) : Option (Int32 × Mem) := (if 8 ≤ y3 then some (y2, μ) else (if 8 ≤ (y3 + 1) then fX4_below_37 F k0 rec4 y1 y2 y3 (y3 * 50) y1 μ else fX4_below_37 F k0 rec4 y1 y2 y3 (y3 * 50) (imin y1 ((y3 * 50) + 50)) μ))
def fX4_below_4 (F : Nat) (k0 : Nat) : Nat → Int32 → Int32 → Int32 → Mem → Option (Int32 × Mem)
  | 0 => fun _ _ _ _ => none
  | n + 1 => fX4_below_4_b F k0  (fX4_below_4 F k0  n)
def fX4_below (F : Nat) (k0 : Nat) (x1 : Int32) (μ : Mem) : Option (Int32 × Mem) := fX4_below_4 F k0 F x1 0 0 μ
-- OvenHouse$Prices.going
def fX4_going (F : Nat) (k0 : Nat) (x1 : Int32) (x2 : Int32) (μ : Mem) : Option (Int32 × Mem) := (if x2 ≤ x1 then cal (fX4_below F (k0 + 1 + 1) x1 μ) (fun r2 m1 => cal (fX4_below F (k0 + 1 + 1) x2 m1) (fun r4 m3 => some ((r2 - r4), m3))) else cal (fX4_below F (k0 + 1 + 0) x2 μ) (fun r6 m5 => cal (fX4_below F (k0 + 1 + 0) x1 m5) (fun r8 m7 => some ((r6 - r8), m7))))
-- OvenHouse$Rings.costOfAll
def fX5_costOfAll_4_b (F : Nat) (k1 : Nat) (rec4 : Int32 → Int32 → Mem → Option (Int32 × Mem)) (y2 : Int32) (y3 : Int32) (μ : Mem) : Option (Int32 × Mem) := (if (μ 61 9) ≤ y3 then some (y2, μ) else rd μ 63 y3 (fun v1 => rd μ 66 y3 (fun v2 => rd μ 62 v2 (fun v3 => cal (fX4_going F k1 v1 v3 μ) (fun r5 m4 => rec4 (y2 + r5) (y3 + 1) m4)))))
def fX5_costOfAll_4 (F : Nat) (k1 : Nat) : Nat → Int32 → Int32 → Mem → Option (Int32 × Mem)
  | 0 => fun _ _ _ => none
  | n + 1 => fX5_costOfAll_4_b F k1  (fX5_costOfAll_4 F k1  n)
def fX5_costOfAll (F : Nat) (k1 : Nat) (μ : Mem) : Option (Int32 × Mem) := fX5_costOfAll_4 F k1 F 0 0 μ
-- java/util/Arrays.fill
def fJ7_fill_53178_5_b (F : Nat) (k0 : Nat) (rec5 : Int32 → Int32 → Int32 → Mem → Option Mem) (y1 : Int32) (y2 : Int32) (y3 : Int32) (μ : Mem) : Option Mem := (if y3 ≤ y2 then some μ else wr μ k0 y2 y1 (fun m1 => rec5 y1 (y2 + 1) y3 m1))
def fJ7_fill_53178_5 (F : Nat) (k0 : Nat) : Nat → Int32 → Int32 → Int32 → Mem → Option Mem
  | 0 => fun _ _ _ _ => none
  | n + 1 => fJ7_fill_53178_5_b F k0  (fJ7_fill_53178_5 F k0  n)
def fJ7_fill_53178 (F : Nat) (k0 : Nat) (x1 : Int32) (μ : Mem) : Option Mem := fJ7_fill_53178_5 F k0 F x1 0 (Int32.ofNat (ln k0)) μ
-- OvenHouse$Rings.nameRing
def fX5_nameRing_5_b (F : Nat)  (rec5 : Int32 → Int32 → Int32 → Mem → Option Mem) (y2 : Int32) (y3 : Int32) (y4 : Int32) (μ : Mem) : Option Mem := (if (μ 61 9) ≤ y4 then some μ else rd μ 67 y3 (fun v1 => (if v1 = (-1) then wr μ 67 y3 y2 (fun m2 => rd m2 66 y3 (fun v3 => rec5 y2 v3 (y4 + 1) m2)) else some μ)))
def fX5_nameRing_5 (F : Nat)  : Nat → Int32 → Int32 → Int32 → Mem → Option Mem
  | 0 => fun _ _ _ _ => none
  | n + 1 => fX5_nameRing_5_b F   (fX5_nameRing_5 F   n)
def fX5_nameRing (F : Nat) (x1 : Int32) (x2 : Int32) (μ : Mem) : Option Mem := fX5_nameRing_5 F F x2 x1 0 μ
-- OvenHouse$Rings.nameRings
def fX5_nameRings_15_b (F : Nat)  (rec15 : Int32 → Mem → Option Mem) (y1 : Int32) (μ : Mem) : Option Mem := (if (μ 61 9) ≤ y1 then some μ else rd μ 67 y1 (fun v3 => (if v3 = (-1) then cav (fX5_nameRing F y1 (μ 61 11) μ) (fun m4 => st m4 61 11 ((m4 61 11) + 1) (fun m5 => rec15 (y1 + 1) m5)) else rec15 (y1 + 1) μ)))
def fX5_nameRings_15 (F : Nat)  : Nat → Int32 → Mem → Option Mem
  | 0 => fun _ _ => none
  | n + 1 => fX5_nameRings_15_b F   (fX5_nameRings_15 F   n)
def fX5_nameRings (F : Nat) (μ : Mem) : Option Mem := cav (fJ7_fill_53178 F 67 (-1) μ) (fun m1 => st m1 61 11 0 (fun m2 => fX5_nameRings_15 F F 0 m2))
-- OvenHouse$Rings.weightOf
def fX5_weightOf (F : Nat) (x1 : Int32) (k2 : Nat) (μ : Mem) : Option (Int32 × Mem) := rd μ 64 x1 (fun v1 => rd μ 63 v1 (fun v2 => rd μ 65 x1 (fun v3 => rd μ 62 v3 (fun v4 => rd μ 64 (x1 + 1) (fun v5 => rd μ 63 v5 (fun v6 => rd μ 65 (x1 + 1) (fun v7 => rd μ 62 v7 (fun v8 => (if (imin v6 v8) ≤ (imax v2 v4) then some (0, μ) else cal (fX4_going F k2 (imax v2 v4) (imin v6 v8) μ) (fun r10 m9 => cal (fX4_going F k2 (imin v6 v8) (imax v2 v4) m9) (fun r12 m11 => some ((r10 + r12), m11))))))))))))
-- OvenHouse$Rings.rename
def fX5_rename_2_b (F : Nat)  (rec2 : Int32 → Int32 → Int32 → Mem → Option Mem) (y1 : Int32) (y2 : Int32) (y3 : Int32) (μ : Mem) : Option Mem := (if (μ 61 9) ≤ y3 then some μ else rd μ 67 y3 (fun v1 => (if v1 = y1 then wr μ 67 y3 y2 (fun m2 => rec2 y1 y2 (y3 + 1) m2) else rec2 y1 y2 (y3 + 1) μ)))
def fX5_rename_2 (F : Nat)  : Nat → Int32 → Int32 → Int32 → Mem → Option Mem
  | 0 => fun _ _ _ _ => none
  | n + 1 => fX5_rename_2_b F   (fX5_rename_2 F   n)
def fX5_rename (F : Nat) (x1 : Int32) (x2 : Int32) (μ : Mem) : Option Mem := fX5_rename_2 F F x1 x2 0 μ
-- OvenHouse$Rings.takeJoins
def fX5_takeJoins_72 (F : Nat)  (rec12 : Int32 → Mem → Option Mem) (y1 : Int32) (y2 : Int32) (y3 : Int32) (y4 : Int32) (z0 : Int32) (z1 : Int32) (μ : Mem) : Option Mem := wz μ 70 z1 z0 (fun m8 => rd m8 70 y2 (fun v9 => (if v9 = 0 then rec12 (y1 + 1) m8 else st m8 61 13 ((m8 61 13) + 1) (fun m10 => rd m10 68 y2 (fun v11 => st m10 61 14 ((m10 61 14) + v11) (fun m12 => cav (fX5_rename F y4 y3 m12) (fun m13 => rec12 (y1 + 1) m13)))))))
def fX5_takeJoins_12_b (F : Nat)  (rec12 : Int32 → Mem → Option Mem) (y1 : Int32) (μ : Mem) : Option Mem := (if (μ 61 9) ≤ (y1 + 1) then some μ else rd μ 69 y1 (fun v3 => rd μ 64 v3 (fun v4 => rd μ 67 v4 (fun v5 => rd μ 64 (v3 + 1) (fun v6 => rd μ 67 v6 (fun v7 => (if v5 = v7 then fX5_takeJoins_72 F rec12 y1 v3 v5 v7 0 v3 μ else fX5_takeJoins_72 F rec12 y1 v3 v5 v7 1 v3 μ)))))))
def fX5_takeJoins_12 (F : Nat)  : Nat → Int32 → Mem → Option Mem
  | 0 => fun _ _ => none
  | n + 1 => fX5_takeJoins_12_b F   (fX5_takeJoins_12 F   n)
def fX5_takeJoins (F : Nat) (μ : Mem) : Option Mem := st μ 61 13 0 (fun m1 => st m1 61 14 0 (fun m2 => fX5_takeJoins_12 F F 0 m2))
-- OvenHouse$Rings.endsAbove
def fX5_endsAbove (F : Nat) (x1 : Int32) (μ : Mem) : Option (Int32 × Mem) := rd μ 64 x1 (fun v1 => rd μ 63 v1 (fun v2 => rd μ 65 x1 (fun v3 => rd μ 62 v3 (fun v4 => (if v2 ≤ v4 then zr 0 μ else zr 1 μ)))))
-- OvenHouse$Rings.exchangeTaken
def fX5_exchangeTaken_57_b (F : Nat)  (rec57 : Int32 → Mem → Option Mem) (y1 : Int32) (μ : Mem) : Option Mem := (if (μ 61 9) ≤ (y1 + 1) then some μ else rd μ 70 y1 (fun v7 => (if v7 = 0 then rec57 (y1 + 1) μ else cal (fX5_endsAbove F y1 μ) (fun r9 m8 => (if r9 = 0 then rec57 (y1 + 1) m8 else rd m8 64 y1 (fun v10 => rd m8 64 (y1 + 1) (fun v11 => cav (fX8_exchange F 66 v10 v11 m8) (fun m12 => rec57 (y1 + 1) m12))))))))
def fX5_exchangeTaken_57 (F : Nat)  : Nat → Int32 → Mem → Option Mem
  | 0 => fun _ _ => none
  | n + 1 => fX5_exchangeTaken_57_b F   (fX5_exchangeTaken_57 F   n)
def fX5_exchangeTaken_7_b (F : Nat)  (rec7 : Int32 → Mem → Option Mem) (y1 : Int32) (μ : Mem) : Option Mem := (if y1 < 0 then fX5_exchangeTaken_57 F F 0 μ else rd μ 70 y1 (fun v1 => (if v1 = 0 then rec7 (y1 + (-1)) μ else cal (fX5_endsAbove F y1 μ) (fun r3 m2 => (if r3 = 0 then rd m2 64 y1 (fun v4 => rd m2 64 (y1 + 1) (fun v5 => cav (fX8_exchange F 66 v4 v5 m2) (fun m6 => rec7 (y1 + (-1)) m6))) else rec7 (y1 + (-1)) m2)))))
def fX5_exchangeTaken_7 (F : Nat)  : Nat → Int32 → Mem → Option Mem
  | 0 => fun _ _ => none
  | n + 1 => fX5_exchangeTaken_7_b F   (fX5_exchangeTaken_7 F   n)
def fX5_exchangeTaken (F : Nat) (μ : Mem) : Option Mem := fX5_exchangeTaken_7 F F ((μ 61 9) - 2) μ
-- OvenHouse$Rings.joinAll
def fX5_joinAll_83_b (F : Nat) (k1 : Nat) (rec83 : Int32 → Mem → Option (Int32 × Mem)) (y2 : Int32) (μ : Mem) : Option (Int32 × Mem) := (if (μ 61 9) ≤ (y2 + 1) then cav (fX8_rank F 68 ((μ 61 9) - 1) 69 μ) (fun m11 => cav (fX5_takeJoins F m11) (fun m12 => cav (fX5_exchangeTaken F m12) (fun m13 => cal (fX5_costOfAll F k1 m13) (fun r15 m14 => some (r15, m14))))) else cal (fX5_weightOf F y2 k1 μ) (fun r17 m16 => wr m16 68 y2 r17 (fun m18 => rec83 (y2 + 1) m18)))
def fX5_joinAll_83 (F : Nat) (k1 : Nat) : Nat → Int32 → Mem → Option (Int32 × Mem)
  | 0 => fun _ _ => none
  | n + 1 => fX5_joinAll_83_b F k1  (fX5_joinAll_83 F k1  n)
def fX5_joinAll_32_b (F : Nat) (k1 : Nat) (rec32 : Int32 → Mem → Option (Int32 × Mem)) (y2 : Int32) (μ : Mem) : Option (Int32 × Mem) := (if (μ 61 9) ≤ y2 then st μ 61 10 1 (fun m3 => cal (fX5_costOfAll F k1 m3) (fun r5 m4 => st m4 61 12 r5 (fun m6 => cav (fX5_nameRings F m6) (fun m7 => fX5_joinAll_83 F k1 F 0 m7)))) else rd μ 64 y2 (fun v8 => rd μ 65 y2 (fun v9 => wr μ 66 v8 v9 (fun m10 => rec32 (y2 + 1) m10))))
def fX5_joinAll_32 (F : Nat) (k1 : Nat) : Nat → Int32 → Mem → Option (Int32 × Mem)
  | 0 => fun _ _ => none
  | n + 1 => fX5_joinAll_32_b F k1  (fX5_joinAll_32 F k1  n)
def fX5_joinAll (F : Nat) (k1 : Nat) (μ : Mem) : Option (Int32 × Mem) := cav (fX8_rank F 63 (μ 61 9) 64 μ) (fun m1 => cav (fX8_rank F 62 (m1 61 9) 65 m1) (fun m2 => fX5_joinAll_32 F k1 F 0 m2))
-- OvenHouse$Rings.rowFrom
def fX5_rowFrom_6_b (F : Nat) (k2 : Nat) (rec6 : Int32 → Int32 → Int32 → Mem → Option Mem) (y3 : Int32) (y4 : Int32) (y5 : Int32) (μ : Mem) : Option Mem := (if y3 ≤ y5 then some μ else wr μ k2 y5 y4 (fun m1 => rd m1 66 y4 (fun v2 => rec6 y3 v2 (y5 + 1) m1)))
def fX5_rowFrom_6 (F : Nat) (k2 : Nat) : Nat → Int32 → Int32 → Int32 → Mem → Option Mem
  | 0 => fun _ _ _ _ => none
  | n + 1 => fX5_rowFrom_6_b F k2  (fX5_rowFrom_6 F k2  n)
def fX5_rowFrom (F : Nat) (x1 : Int32) (k2 : Nat) (x3 : Int32) (μ : Mem) : Option Mem := fX5_rowFrom_6 F k2 F x3 x1 0 μ
-- OvenHouse$Rows.begin
def fX6_begin_7_b (F : Nat)  (rec7 : Int32 → Mem → Option Mem) (y2 : Int32) (μ : Mem) : Option Mem := (if (μ 71 1) ≤ y2 then some μ else wr μ 72 y2 y2 (fun m2 => rec7 (y2 + 1) m2))
def fX6_begin_7 (F : Nat)  : Nat → Int32 → Mem → Option Mem
  | 0 => fun _ _ => none
  | n + 1 => fX6_begin_7_b F   (fX6_begin_7 F   n)
def fX6_begin (F : Nat) (x1 : Int32) (μ : Mem) : Option Mem := st μ 71 1 x1 (fun m1 => fX6_begin_7 F F 0 m1)
-- OvenHouse$Rows.step
def fX6_step_96_b (F : Nat)  (rec96 : Int32 → Int32 → Int32 → Mem → Option (Int32 × Mem)) (y1 : Int32) (y3 : Int32) (y4 : Int32) (μ : Mem) : Option (Int32 × Mem) := (if y4 ≤ y3 then some (y1, μ) else cav (fX8_exchange F 72 y3 y4 μ) (fun m6 => rec96 y1 (y3 + 1) (y4 + (-1)) m6))
def fX6_step_96 (F : Nat)  : Nat → Int32 → Int32 → Int32 → Mem → Option (Int32 × Mem)
  | 0 => fun _ _ _ _ => none
  | n + 1 => fX6_step_96_b F   (fX6_step_96 F   n)
def fX6_step_75 (F : Nat)  (y1 : Int32) (y2 : Int32) (μ : Mem) : Option (Int32 × Mem) := cav (fX8_exchange F 72 y1 y2 μ) (fun m5 => fX6_step_96 F F y1 (y1 + 1) ((m5 71 1) - 1) m5)
def fX6_step_47_b (F : Nat)  (rec47 : Int32 → Int32 → Mem → Option (Int32 × Mem)) (y1 : Int32) (y2 : Int32) (μ : Mem) : Option (Int32 × Mem) := (if y2 ≤ (y1 + 1) then fX6_step_75 F y1 y2 μ else rd μ 72 y2 (fun v3 => rd μ 72 y1 (fun v4 => (if v4 ≤ v3 then fX6_step_75 F y1 y2 μ else rec47 y1 (y2 + (-1)) μ))))
def fX6_step_47 (F : Nat)  : Nat → Int32 → Int32 → Mem → Option (Int32 × Mem)
  | 0 => fun _ _ _ => none
  | n + 1 => fX6_step_47_b F   (fX6_step_47 F   n)
def fX6_step_34 (F : Nat)  (y1 : Int32) (μ : Mem) : Option (Int32 × Mem) := (if 0 ≤ y1 then fX6_step_47 F F y1 ((μ 71 1) - 1) μ else some ((-1), μ))
def fX6_step_7_b (F : Nat)  (rec7 : Int32 → Mem → Option (Int32 × Mem)) (y1 : Int32) (μ : Mem) : Option (Int32 × Mem) := (if y1 < 0 then fX6_step_34 F y1 μ else rd μ 72 y1 (fun v1 => rd μ 72 (y1 + 1) (fun v2 => (if v1 ≤ v2 then fX6_step_34 F y1 μ else rec7 (y1 + (-1)) μ))))
def fX6_step_7 (F : Nat)  : Nat → Int32 → Mem → Option (Int32 × Mem)
  | 0 => fun _ _ => none
  | n + 1 => fX6_step_7_b F   (fX6_step_7 F   n)
def fX6_step (F : Nat) (μ : Mem) : Option (Int32 × Mem) := fX6_step_7 F F ((μ 71 1) - 2) μ
-- OvenHouse$Sheets.finding
def fX7_finding (F : Nat) (x1 : Int32) (μ : Mem) : Option (Int32 × Mem) := st μ 1 3 x1 (fun m1 => some (((-10) - x1), m1))
-- OvenHouse$Sheets.isLost
def fX7_isLost (F : Nat) (x1 : Int32) (μ : Mem) : Option (Int32 × Mem) := rd μ 2 x1 (fun v1 => (if v1 = (-1) then zr 1 μ else zr 0 μ))
-- OvenHouse$Sheets.renew
def fX7_renew (F : Nat) (x1 : Int32) (x2 : Int32) (x3 : Int32) (μ : Mem) : Option Mem := wr μ 2 x1 x2 (fun m1 => wr m1 3 x1 x3 (fun m2 => rr 4 x1 (fun t3 => cav (fJ7_fill_53178 F t3 0 m2) (fun m4 => some m4))))
-- OvenHouse$Sheets.hasItems
def fX7_hasItems (F : Nat) (x1 : Int32) (x2 : Int32) (x3 : Int32) (μ : Mem) : Option (Int32 × Mem) := (if x2 < 0 then zr 0 μ else (if x3 < 0 then zr 0 μ else rd μ 3 x1 (fun v1 => (if (v1 - x3) < x2 then zr 0 μ else zr 1 μ))))
-- OvenHouse$Sheets.lookAt
def fX7_lookAt (F : Nat) (x1 : Int32) (x2 : Int32) (x3 : Int32) (μ : Mem) : Option (Int32 × Mem) := cal (fX7_isLost F x1 μ) (fun r2 m1 => (if r2 = 0 then rd m1 2 x1 (fun v3 => (if v3 = x2 then cal (fX7_hasItems F x1 x3 1 m1) (fun r5 m4 => (if r5 = 0 then some (2, m4) else some (0, m4))) else some (3, m1))) else some (1, m1)))
-- OvenHouse.isSheet
def fX8_isSheet (F : Nat) (x0 : Int32) (μ : Mem) : Option (Int32 × Mem) := (if x0 < 0 then zr 0 μ else (if 4 ≤ x0 then zr 0 μ else zr 1 μ))
-- OvenHouse.isForm
def fX8_isForm (F : Nat) (x0 : Int32) (μ : Mem) : Option (Int32 × Mem) := (if x0 < 0 then zr 0 μ else (if 3 ≤ x0 then zr 0 μ else zr 1 μ))
-- OvenHouse.sheet
def fX8_sheet (F : Nat) (x1 : Int32) (x2 : Int32) (x3 : Int32) (μ : Mem) : Option (Int32 × Mem) := cal (fX8_isSheet F x1 μ) (fun r2 m1 => (if r2 = 0 then some ((-2), m1) else cal (fX8_isForm F x2 m1) (fun r4 m3 => (if r4 = 0 then some ((-2), m3) else (if x3 ≤ 40 then (if 0 ≤ x3 then cav (fX7_renew F x1 x2 x3 m3) (fun m5 => some (x3, m5)) else cal (fX7_finding F 5 m3) (fun r7 m6 => some (r7, m6))) else some ((-2), m3))))))
-- OvenHouse.lose
def fX8_lose (F : Nat) (x1 : Int32) (μ : Mem) : Option (Int32 × Mem) := cal (fX8_isSheet F x1 μ) (fun r2 m1 => (if r2 = 0 then some ((-2), m1) else cal (fX7_isLost F x1 m1) (fun r4 m3 => (if r4 = 0 then wr m3 2 x1 (-1) (fun m5 => rd m5 3 x1 (fun v6 => some (v6, m5))) else cal (fX7_finding F 1 m3) (fun r8 m7 => some (r8, m7))))))
-- OvenHouse.cutToForm
def fX8_cutToForm (F : Nat) (x0 : Int32) (x1 : Int32) (μ : Mem) : Option (Int32 × Mem) := (if x0 = 0 then some (x1.toInt8.toInt32, μ) else (if x0 = 1 then some (x1.toInt16.toInt32, μ) else some (x1, μ)))
-- OvenHouse.put
def fX8_put (F : Nat) (x1 : Int32) (x2 : Int32) (x3 : Int32) (x4 : Int32) (μ : Mem) : Option (Int32 × Mem) := cal (fX8_isSheet F x1 μ) (fun r2 m1 => (if r2 = 0 then some ((-2), m1) else cal (fX8_isForm F x2 m1) (fun r4 m3 => (if r4 = 0 then some ((-2), m3) else cal (fX7_lookAt F x1 x2 x3 m3) (fun r6 m5 => (if r6 = 0 then rr 4 x1 (fun t7 => cal (fX8_cutToForm F x2 x4 m5) (fun r9 m8 => wr m8 t7 x3 r9 (fun m10 => some (1, m10)))) else cal (fX7_finding F r6 m5) (fun r12 m11 => some (r12, m11))))))))
-- OvenHouse.get
def fX8_get (F : Nat) (x1 : Int32) (x2 : Int32) (x3 : Int32) (μ : Mem) : Option (Int32 × Mem) := cal (fX8_isSheet F x1 μ) (fun r2 m1 => (if r2 = 0 then some ((-2147483648), m1) else cal (fX8_isForm F x2 m1) (fun r4 m3 => (if r4 = 0 then some ((-2147483648), m3) else cal (fX7_lookAt F x1 x2 x3 m3) (fun r6 m5 => (if r6 = 0 then rr 4 x1 (fun t7 => rd m5 t7 x3 (fun v8 => some (v8, m5))) else cal (fX7_finding F r6 m5) (fun r10 m9 => some ((-2147483648), m9))))))))
-- OvenHouse.copy
def fX8_copy_39 (F : Nat)  (μ : Mem) : Option (Int32 × Mem) := cal (fX7_finding F 1 μ) (fun r21 m20 => some (r21, m20))
def fX8_copy_107 (F : Nat)  (μ : Mem) : Option (Int32 × Mem) := cal (fX7_finding F 2 μ) (fun r23 m22 => some (r23, m22))
def fX8_copy (F : Nat) (x1 : Int32) (x2 : Int32) (x3 : Int32) (x4 : Int32) (x5 : Int32) (μ : Mem) : Option (Int32 × Mem) := cal (fX8_isSheet F x1 μ) (fun r2 m1 => (if r2 = 0 then some ((-2), m1) else cal (fX8_isSheet F x3 m1) (fun r4 m3 => (if r4 = 0 then some ((-2), m3) else cal (fX7_isLost F x1 m3) (fun r6 m5 => (if r6 = 0 then cal (fX7_isLost F x3 m5) (fun r8 m7 => (if r8 = 0 then rd m7 2 x1 (fun v9 => rd m7 2 x3 (fun v10 => (if v9 = v10 then cal (fX7_hasItems F x1 x2 x5 m7) (fun r12 m11 => (if r12 = 0 then fX8_copy_107 F m11 else cal (fX7_hasItems F x3 x4 x5 m11) (fun r14 m13 => (if r14 = 0 then fX8_copy_107 F m13 else rr 4 x1 (fun t15 => rr 4 x3 (fun t16 => cpy m13 t15 x2 t16 x4 x5 (fun m17 => some (1, m17)))))))) else cal (fX7_finding F 4 m7) (fun r19 m18 => some (r19, m18))))) else fX8_copy_39 F m7)) else fX8_copy_39 F m5))))))
-- OvenHouse.isSpan
def fX8_isSpan (F : Nat) (x0 : Int32) (μ : Mem) : Option (Int32 × Mem) := (if x0 < 0 then zr 0 μ else (if 100000 < x0 then zr 0 μ else zr 1 μ))
-- OvenHouse.areSpans
def fX8_areSpans_2_b (F : Nat) (k0 : Nat) (rec2 : Int32 → Int32 → Mem → Option (Int32 × Mem)) (y1 : Int32) (y2 : Int32) (μ : Mem) : Option (Int32 × Mem) := (if y1 ≤ y2 then zr 1 μ else rd μ k0 y2 (fun v1 => cal (fX8_isSpan F v1 μ) (fun r3 m2 => (if r3 = 0 then zr 0 m2 else rec2 y1 (y2 + 1) m2))))
def fX8_areSpans_2 (F : Nat) (k0 : Nat) : Nat → Int32 → Int32 → Mem → Option (Int32 × Mem)
  | 0 => fun _ _ _ => none
  | n + 1 => fX8_areSpans_2_b F k0  (fX8_areSpans_2 F k0  n)
def fX8_areSpans (F : Nat) (k0 : Nat) (x1 : Int32) (μ : Mem) : Option (Int32 × Mem) := fX8_areSpans_2 F k0 F x1 0 μ
-- OvenHouse.take
def fX8_take_67 (F : Nat)  (μ : Mem) : Option (Int32 × Mem) := cal (fX7_finding F 1 μ) (fun r21 m20 => some (r21, m20))
def fX8_take_102 (F : Nat)  (μ : Mem) : Option (Int32 × Mem) := cal (fX7_finding F 2 μ) (fun r23 m22 => some (r23, m22))
def fX8_take_160_b (F : Nat)  (rec160 : Int32 → Int32 → Int32 → Int32 → Mem → Option (Int32 × Mem)) (y1 : Int32) (y2 : Int32) (y3 : Int32) (y4 : Int32) (μ : Mem) : Option (Int32 × Mem) := (if y3 ≤ y4 then st μ 53 2 0 (fun m24 => some ((m24 9 6), m24)) else rr 4 y1 (fun t25 => rd μ t25 y4 (fun v26 => rr 4 y2 (fun t27 => rd μ t27 y4 (fun v28 => cav (fX3_add F v26 v28 μ) (fun m29 => rec160 y1 y2 y3 (y4 + 1) m29))))))
def fX8_take_160 (F : Nat)  : Nat → Int32 → Int32 → Int32 → Int32 → Mem → Option (Int32 × Mem)
  | 0 => fun _ _ _ _ _ => none
  | n + 1 => fX8_take_160_b F   (fX8_take_160 F   n)
def fX8_take (F : Nat) (x1 : Int32) (x2 : Int32) (x3 : Int32) (μ : Mem) : Option (Int32 × Mem) := cal (fX8_isSheet F x1 μ) (fun r2 m1 => (if r2 = 0 then some ((-2), m1) else cal (fX8_isSheet F x2 m1) (fun r4 m3 => (if r4 = 0 then some ((-2), m3) else (if x3 < 1 then some ((-2), m3) else (if x3 ≤ 40 then (if ((m3 9 6) + x3) ≤ 40 then cal (fX7_isLost F x1 m3) (fun r6 m5 => (if r6 = 0 then cal (fX7_isLost F x2 m5) (fun r8 m7 => (if r8 = 0 then cal (fX7_hasItems F x1 0 x3 m7) (fun r10 m9 => (if r10 = 0 then fX8_take_102 F m9 else cal (fX7_hasItems F x2 0 x3 m9) (fun r12 m11 => (if r12 = 0 then fX8_take_102 F m11 else rr 4 x1 (fun t13 => cal (fX8_areSpans F t13 x3 m11) (fun r15 m14 => (if r15 = 0 then some ((-2), m14) else rr 4 x2 (fun t16 => cal (fX8_areSpans F t16 x3 m14) (fun r18 m17 => (if r18 = 0 then some ((-2), m17) else cav (fX2_keep F m17) (fun m19 => fX8_take_160 F F x1 x2 x3 0 m19))))))))))) else fX8_take_67 F m7)) else fX8_take_67 F m5)) else some ((-3), m3)) else some ((-2), m3)))))))
-- OvenHouse.loaf
def fX8_loaf (F : Nat) (x1 : Int32) (x2 : Int32) (μ : Mem) : Option (Int32 × Mem) := cal (fX8_isSpan F x1 μ) (fun r2 m1 => (if r2 = 0 then some ((-2), m1) else cal (fX8_isSpan F x2 m1) (fun r4 m3 => (if r4 = 0 then some ((-2), m3) else (if (m3 9 6) < 40 then cav (fX2_keep F m3) (fun m5 => cav (fX3_add F x1 x2 m5) (fun m6 => st m6 53 2 0 (fun m7 => some (((m7 9 6) - 1), m7)))) else some ((-3), m3))))))
-- OvenHouse.of
def fX8_of (F : Nat) (x1 : Int32) (x2 : Int32) (μ : Mem) : Option (Int32 × Mem) := cal (fX3_has F x1 μ) (fun r2 m1 => (if r2 = 0 then some ((-2), m1) else (if x2 = 0 then rd m1 10 x1 (fun v3 => some (v3, m1)) else (if x2 = 1 then rd m1 11 x1 (fun v4 => some (v4, m1)) else (if x2 = 2 then rd m1 12 x1 (fun v5 => some (v5, m1)) else (if x2 = 3 then rd m1 13 x1 (fun v6 => some (v6, m1)) else (if x2 = 4 then cal (fX3_kindOf F x1 m1) (fun r8 m7 => some (r8, m7)) else (if x2 = 5 then cal (fX3_placeOf F x1 m1) (fun r10 m9 => some (r10, m9)) else some ((-2), m1)))))))))
-- OvenHouse.isDegree
def fX8_isDegree (F : Nat) (x0 : Int32) (μ : Mem) : Option (Int32 × Mem) := (if x0 < 0 then zr 0 μ else (if 399 < x0 then zr 0 μ else zr 1 μ))
-- OvenHouse.heat
def fX8_heat (F : Nat) (x1 : Int32) (x2 : Int32) (x3 : Int32) (μ : Mem) : Option (Int32 × Mem) := cal (fX3_has F x1 μ) (fun r2 m1 => (if r2 = 0 then some ((-2), m1) else cal (fX8_isDegree F x2 m1) (fun r4 m3 => (if r4 = 0 then some ((-2), m3) else cal (fX8_isDegree F x3 m3) (fun r6 m5 => (if r6 = 0 then some ((-2), m5) else cav (fX2_keep F m5) (fun m7 => wr m7 12 x1 x2 (fun m8 => wr m8 13 x1 x3 (fun m9 => some (1, m9))))))))))
-- OvenHouse.isPrice
def fX8_isPrice (F : Nat) (x0 : Int32) (μ : Mem) : Option (Int32 × Mem) := (if x0 < (-100) then zr 0 μ else (if 100 < x0 then zr 0 μ else zr 1 μ))
-- OvenHouse.price
def fX8_price (F : Nat) (x1 : Int32) (x2 : Int32) (x3 : Int32) (μ : Mem) : Option (Int32 × Mem) := (if x1 < 0 then some ((-2), μ) else (if 8 ≤ x1 then some ((-2), μ) else cal (fX8_isPrice F x2 μ) (fun r2 m1 => (if r2 = 0 then some ((-2), m1) else cal (fX8_isPrice F x3 m1) (fun r4 m3 => (if r4 = 0 then some ((-2), m3) else wr m3 74 x1 x2 (fun m5 => wr m5 75 x1 x3 (fun m6 => some (1, m6)))))))))
-- OvenHouse.at
def fX8_at (F : Nat) (x1 : Int32) (μ : Mem) : Option (Int32 × Mem) := cal (fX3_has F x1 μ) (fun r2 m1 => (if r2 = 0 then some ((-1), m1) else rd m1 14 x1 (fun v3 => some (v3, m1))))
-- OvenHouse.swap
def fX8_swap (F : Nat) (x1 : Int32) (x2 : Int32) (μ : Mem) : Option (Int32 × Mem) := cal (fX3_has F x1 μ) (fun r2 m1 => (if r2 = 0 then some ((-2), m1) else cal (fX3_has F x2 m1) (fun r4 m3 => (if r4 = 0 then some ((-2), m3) else cav (fX2_keep F m3) (fun m5 => cav (fX8_exchange F 14 x1 x2 m5) (fun m6 => some (1, m6)))))))
-- OvenHouse.rule
def fX8_rule (F : Nat) (μ : Mem) : Option (Int32 × Mem) := cav (fX2_keep F μ) (fun m1 => cav (fX3_byRule F 14 m1) (fun m2 => cav (fX1_follow F 1 0 m2) (fun m3 => cal (fX1_endOf F 14 0 m3) (fun r5 m4 => some (r5, m4)))))
-- OvenHouse.use
def fX8_use (F : Nat) (μ : Mem) : Option (Int32 × Mem) := (if (μ 53 2) = 0 then some ((-5), μ) else cav (fX2_keep F μ) (fun m1 => cpy m1 54 0 14 0 (m1 53 1) (fun m2 => some (1, m2))))
-- OvenHouse.turn
def fX8_turn (F : Nat) (μ : Mem) : Option (Int32 × Mem) := cav (fX2_keep F μ) (fun m1 => cav (fX3_turnAbout F m1) (fun m2 => st m2 53 2 0 (fun m3 => some (1, m3))))
-- OvenHouse.undo
def fX8_undo (F : Nat) (μ : Mem) : Option (Int32 × Mem) := (if (μ 16 2) = 0 then some ((-5), μ) else cav (fX2_giveBack F μ) (fun m1 => st m1 53 2 0 (fun m2 => some ((m2 16 2), m2))))
-- OvenHouse.isLaw
def fX8_isLaw_30 (F : Nat)  (y1 : Int32) (μ : Mem) : Option (Int32 × Mem) := (if y1 = 0 then zr 1 μ else zr 0 μ)
def fX8_isLaw (F : Nat) (x0 : Int32) (x1 : Int32) (μ : Mem) : Option (Int32 × Mem) := (if x0 = 2 then (if x1 < 1 then zr 0 μ else (if 5 < x1 then zr 0 μ else zr 1 μ)) else (if x0 = 0 then fX8_isLaw_30 F x1 μ else (if x0 = 1 then fX8_isLaw_30 F x1 μ else zr 0 μ)))
-- OvenHouse.day
def fX8_day (F : Nat) (x1 : Int32) (x2 : Int32) (μ : Mem) : Option (Int32 × Mem) := cal (fX8_isLaw F x1 x2 μ) (fun r2 m1 => (if r2 = 0 then some ((-2), m1) else cav (fX1_follow F x1 x2 m1) (fun m3 => cal (fX1_endOf F 14 0 m3) (fun r5 m4 => some (r5, m4)))))
-- OvenHouse.moment
def fX8_moment (F : Nat) (x1 : Int32) (x2 : Int32) (x3 : Int32) (x4 : Int32) (μ : Mem) : Option (Int32 × Mem) := cal (fX8_isLaw F x1 x2 μ) (fun r2 m1 => (if r2 = 0 then some ((-2), m1) else cal (fX3_has F x3 m1) (fun r4 m3 => (if r4 = 0 then some ((-2), m3) else cav (fX1_follow F x1 x2 m3) (fun m5 => cal (fX1_endOf F 14 0 m5) (fun r7 m6 => (if x4 = 0 then rd m6 56 x3 (fun v8 => some (v8, m6)) else (if x4 = 1 then rd m6 57 x3 (fun v9 => some (v9, m6)) else (if x4 = 2 then rd m6 58 x3 (fun v10 => some (v10, m6)) else (if x4 = 3 then rd m6 59 x3 (fun v11 => some (v11, m6)) else some ((-2), m6)))))))))))
-- OvenHouse.idle
def fX8_idle (F : Nat) (x1 : Int32) (x2 : Int32) (μ : Mem) : Option (Int32 × Mem) := cal (fX8_isLaw F x1 x2 μ) (fun r2 m1 => (if r2 = 0 then some ((-2), m1) else cav (fX1_follow F x1 x2 m1) (fun m3 => cal (fX1_endOf F 14 0 m3) (fun r5 m4 => cal (fX3_sum F 11 m4) (fun r7 m6 => some ((r5 - r7), m6))))))
-- OvenHouse.bound
def fX8_bound (F : Nat) (μ : Mem) : Option (Int32 × Mem) := (if (μ 9 6) = 0 then some (0, μ) else cal (fX3_sum F 10 μ) (fun r2 m1 => cal (fX3_leastOf F 11 m1) (fun r4 m3 => cal (fX3_sum F 11 m3) (fun r6 m5 => cal (fX3_leastOf F 10 m5) (fun r8 m7 => some ((imax (r2 + r4) (r6 + r8)), m7))))))
-- OvenHouse.leastByRings
def fX8_leastByRings (F : Nat) (μ : Mem) : Option (Int32 × Mem) := st μ 61 9 ((μ 9 6) + 1) (fun m1 => cpy m1 10 0 62 0 (μ 9 6) (fun m2 => cpy m2 11 0 63 0 (μ 9 6) (fun m3 => wr m3 62 (μ 9 6) 0 (fun m4 => wr m4 63 (μ 9 6) 0 (fun m5 => cal (fX5_joinAll F 76 m5) (fun r7 m6 => rd m6 66 (μ 9 6) (fun v8 => cav (fX5_rowFrom F v8 79 (μ 9 6) m6) (fun m9 => cav (fX0_become F 79 (μ 9 6) m9) (fun m10 => cal (fX3_sum F 11 m10) (fun r12 m11 => some ((r12 + r7), m11)))))))))))
-- OvenHouse.leastOfAllRows
def fX8_leastOfAllRows_109 (F : Nat)  (rec23 : Int32 → Int32 → Int32 → Int32 → Mem → Option (Int32 × Mem)) (y1 : Int32) (y2 : Int32) (y4 : Int32) (μ : Mem) : Option (Int32 × Mem) := cal (fX6_step F μ) (fun r7 m6 => rec23 y1 y2 r7 (y4 + 1) m6)
def fX8_leastOfAllRows_83 (F : Nat)  (rec23 : Int32 → Int32 → Int32 → Int32 → Mem → Option (Int32 × Mem)) (y1 : Int32) (y4 : Int32) (y5 : Int32) (μ : Mem) : Option (Int32 × Mem) := cpy μ 72 0 79 0 (μ 9 6) (fun m8 => fX8_leastOfAllRows_109 F rec23 y1 y5 y4 m8)
def fX8_leastOfAllRows_23_b (F : Nat)  (rec23 : Int32 → Int32 → Int32 → Int32 → Mem → Option (Int32 × Mem)) (y1 : Int32) (y2 : Int32) (y3 : Int32) (y4 : Int32) (μ : Mem) : Option (Int32 × Mem) := (if 5040 ≤ y4 then some (y2, μ) else (if y3 < 0 then some (y2, μ) else cal (fX1_endOf F 72 y3 μ) (fun r3 m2 => (if y2 ≤ r3 then fX8_leastOfAllRows_109 F rec23 y1 y2 y4 m2 else (if y1 = 0 then fX8_leastOfAllRows_83 F rec23 y1 y4 r3 m2 else cal (fX3_isOrder F 72 m2) (fun r5 m4 => (if r5 = 0 then fX8_leastOfAllRows_83 F rec23 y1 y4 r3 m4 else fX8_leastOfAllRows_109 F rec23 y1 y2 y4 m4)))))))
def fX8_leastOfAllRows_23 (F : Nat)  : Nat → Int32 → Int32 → Int32 → Int32 → Mem → Option (Int32 × Mem)
  | 0 => fun _ _ _ _ _ => none
  | n + 1 => fX8_leastOfAllRows_23_b F   (fX8_leastOfAllRows_23 F   n)
def fX8_leastOfAllRows (F : Nat) (x1 : Int32) (μ : Mem) : Option (Int32 × Mem) := cav (fX6_begin F (μ 9 6) μ) (fun m1 => fX8_leastOfAllRows_23 F F x1 2147483647 0 0 m1)
-- OvenHouse.least
def fX8_least_91 (F : Nat)  (y3 : Int32) (μ : Mem) : Option (Int32 × Mem) := cav (fX0_become F 79 (μ 9 6) μ) (fun m11 => some (y3, m11))
def fX8_least_31 (F : Nat)  (y1 : Int32) (y2 : Int32) (μ : Mem) : Option (Int32 × Mem) := (if y1 = 0 then cal (fX8_leastByRings F μ) (fun r10 m9 => some (r10, m9)) else cav (fX1_follow F y1 y2 μ) (fun m3 => (if y1 = 1 then cav (fX3_byRule F 79 m3) (fun m6 => cal (fX1_endOf F 79 0 m6) (fun r8 m7 => fX8_least_91 F r8 m7)) else cal (fX8_leastOfAllRows F 0 m3) (fun r5 m4 => fX8_least_91 F r5 m4))))
def fX8_least (F : Nat) (x1 : Int32) (x2 : Int32) (μ : Mem) : Option (Int32 × Mem) := cal (fX8_isLaw F x1 x2 μ) (fun r2 m1 => (if r2 = 0 then some ((-2), m1) else (if x1 = 2 then (if (m1 9 6) ≤ 7 then fX8_least_31 F x1 x2 m1 else some ((-4), m1)) else fX8_least_31 F x1 x2 m1)))
-- OvenHouse.second
def fX8_second (F : Nat) (x1 : Int32) (x2 : Int32) (μ : Mem) : Option (Int32 × Mem) := cal (fX8_isLaw F x1 x2 μ) (fun r2 m1 => (if r2 = 0 then some ((-2), m1) else (if 2 ≤ (m1 9 6) then (if (m1 9 6) ≤ 7 then cav (fX1_follow F x1 x2 m1) (fun m3 => cal (fX8_leastOfAllRows F 1 m3) (fun r5 m4 => some (r5, m4))) else some ((-4), m1)) else some ((-1), m1))))
-- OvenHouse.passOfNeighbours
def fX8_passOfNeighbours_24_b (F : Nat)  (rec24 : Int32 → Int32 → Int32 → Mem → Option (Int32 × Mem)) (y1 : Int32) (y2 : Int32) (y3 : Int32) (μ : Mem) : Option (Int32 × Mem) := (if (μ 9 6) ≤ (y3 + 1) then some (y1, μ) else cav (fX8_exchange F 14 y3 (y3 + 1) μ) (fun m3 => cal (fX1_endOf F 14 (imax 0 (y3 - 1)) m3) (fun r5 m4 => (if y2 ≤ r5 then cav (fX8_exchange F 14 y3 (y3 + 1) m4) (fun m6 => rec24 y1 y2 (y3 + 1) m6) else rec24 (y1 + 1) r5 (y3 + 1) m4))))
def fX8_passOfNeighbours_24 (F : Nat)  : Nat → Int32 → Int32 → Int32 → Mem → Option (Int32 × Mem)
  | 0 => fun _ _ _ _ => none
  | n + 1 => fX8_passOfNeighbours_24_b F   (fX8_passOfNeighbours_24 F   n)
def fX8_passOfNeighbours (F : Nat) (μ : Mem) : Option (Int32 × Mem) := cal (fX1_endOf F 14 0 μ) (fun r2 m1 => fX8_passOfNeighbours_24 F F 0 r2 0 m1)
-- OvenHouse.better
def fX8_better_39_b (F : Nat)  (rec39 : Int32 → Int32 → Int32 → Mem → Option (Int32 × Mem)) (y3 : Int32) (y4 : Int32) (y5 : Int32) (μ : Mem) : Option (Int32 × Mem) := (if 1000000 ≤ y5 then some (y3, μ) else (if y4 ≤ 0 then some (y3, μ) else cal (fX8_passOfNeighbours F μ) (fun r6 m5 => rec39 (y3 + r6) r6 (y5 + 1) m5)))
def fX8_better_39 (F : Nat)  : Nat → Int32 → Int32 → Int32 → Mem → Option (Int32 × Mem)
  | 0 => fun _ _ _ _ => none
  | n + 1 => fX8_better_39_b F   (fX8_better_39 F   n)
def fX8_better (F : Nat) (x1 : Int32) (x2 : Int32) (μ : Mem) : Option (Int32 × Mem) := cal (fX8_isLaw F x1 x2 μ) (fun r2 m1 => (if r2 = 0 then some ((-2), m1) else cav (fX2_keep F m1) (fun m3 => cav (fX1_follow F x1 x2 m3) (fun m4 => fX8_better_39 F F 0 1 0 m4))))
-- OvenHouse.best
def fX8_best (F : Nat) (x1 : Int32) (μ : Mem) : Option (Int32 × Mem) := (if x1 < 0 then some ((-1), μ) else (if (μ 53 1) ≤ x1 then some ((-1), μ) else rd μ 54 x1 (fun v1 => some (v1, μ))))
-- OvenHouse.rings
def fX8_rings (F : Nat) (x1 : Int32) (μ : Mem) : Option (Int32 × Mem) := (if (μ 61 10) = 0 then some ((-2), μ) else (if x1 = 0 then some ((μ 61 11), μ) else (if x1 = 1 then some ((μ 61 12), μ) else (if x1 = 2 then some ((μ 61 13), μ) else (if x1 = 3 then some ((μ 61 14), μ) else some ((-2), μ))))))
-- OvenHouse.wayBetween
def fX8_wayBetween (F : Nat) (x1 : Int32) (x2 : Int32) (μ : Mem) : Option (Int32 × Mem) := rd μ 13 x1 (fun v1 => rd μ 12 x2 (fun v2 => cal (fX4_going F 73 v1 v2 μ) (fun r4 m3 => some (r4, m3))))
-- OvenHouse.cost
def fX8_cost_35 (F : Nat)  (rec4 : Int32 → Int32 → Mem → Option (Int32 × Mem)) (y1 : Int32) (y2 : Int32) (z0 : Int32) (μ : Mem) : Option (Int32 × Mem) := rd μ 14 y2 (fun v1 => rd μ 14 z0 (fun v2 => cal (fX8_wayBetween F v1 v2 μ) (fun r4 m3 => rec4 (y1 + r4) (y2 + 1) m3)))
def fX8_cost_4_b (F : Nat)  (rec4 : Int32 → Int32 → Mem → Option (Int32 × Mem)) (y1 : Int32) (y2 : Int32) (μ : Mem) : Option (Int32 × Mem) := (if (μ 9 6) ≤ y2 then some (y1, μ) else (if (μ 9 6) ≤ (y2 + 1) then fX8_cost_35 F rec4 y1 y2 0 μ else fX8_cost_35 F rec4 y1 y2 (y2 + 1) μ))
def fX8_cost_4 (F : Nat)  : Nat → Int32 → Int32 → Mem → Option (Int32 × Mem)
  | 0 => fun _ _ _ => none
  | n + 1 => fX8_cost_4_b F   (fX8_cost_4 F   n)
def fX8_cost (F : Nat) (μ : Mem) : Option (Int32 × Mem) := fX8_cost_4 F F 0 0 μ
-- OvenHouse.round
def fX8_round (F : Nat) (μ : Mem) : Option (Int32 × Mem) := (if (μ 9 6) = 0 then some ((-5), μ) else cal (fX4_hasLossyStretch F μ) (fun r2 m1 => (if r2 = 0 then st m1 61 9 (m1 9 6) (fun m3 => cpy m3 12 0 62 0 (m3 9 6) (fun m4 => cpy m4 13 0 63 0 (m4 9 6) (fun m5 => cal (fX5_joinAll F 73 m5) (fun r7 m6 => cav (fX5_rowFrom F 0 79 (m6 9 6) m6) (fun m8 => cav (fX0_become F 79 (m8 9 6) m8) (fun m9 => some (r7, m9))))))) else some ((-5), m1))))
-- OvenHouse.layWays
def fX8_layWays_15_b (F : Nat)  (rec2 : Int32 → Mem → Option Mem) (rec15 : Int32 → Int32 → Mem → Option Mem) (y1 : Int32) (y2 : Int32) (μ : Mem) : Option Mem := (if (μ 9 6) ≤ y2 then rec2 (y1 + 1) μ else rr 80 y1 (fun t1 => cal (fX8_wayBetween F y1 y2 μ) (fun r3 m2 => wr m2 t1 y2 r3 (fun m4 => rec15 y1 (y2 + 1) m4))))
def fX8_layWays_15 (F : Nat)  (rec2 : Int32 → Mem → Option Mem) : Nat → Int32 → Int32 → Mem → Option Mem
  | 0 => fun _ _ _ => none
  | n + 1 => fX8_layWays_15_b F  rec2 (fX8_layWays_15 F  rec2 n)
def fX8_layWays_2_b (F : Nat)  (rec2 : Int32 → Mem → Option Mem) (y1 : Int32) (μ : Mem) : Option Mem := (if (μ 9 6) ≤ y1 then some μ else fX8_layWays_15 F rec2 F y1 0 μ)
def fX8_layWays_2 (F : Nat)  : Nat → Int32 → Mem → Option Mem
  | 0 => fun _ _ => none
  | n + 1 => fX8_layWays_2_b F   (fX8_layWays_2 F   n)
def fX8_layWays (F : Nat) (μ : Mem) : Option Mem := fX8_layWays_2 F F 0 μ
-- OvenHouse.roundOfWays
def fX8_roundOfWays_26_b (F : Nat) (k1 : Nat) (rec26 : Int32 → Int32 → Int32 → Mem → Option (Int32 × Mem)) (y2 : Int32) (y3 : Int32) (y4 : Int32) (μ : Mem) : Option (Int32 × Mem) := (if y2 ≤ y4 then some (y3, μ) else rd μ k1 y4 (fun v5 => rr 80 v5 (fun t6 => rd μ k1 (y4 + 1) (fun v7 => rd μ t6 v7 (fun v8 => rec26 y2 (y3 + v8) (y4 + 1) μ)))))
def fX8_roundOfWays_26 (F : Nat) (k1 : Nat) : Nat → Int32 → Int32 → Int32 → Mem → Option (Int32 × Mem)
  | 0 => fun _ _ _ _ => none
  | n + 1 => fX8_roundOfWays_26_b F k1  (fX8_roundOfWays_26 F k1  n)
def fX8_roundOfWays (F : Nat) (k1 : Nat) (μ : Mem) : Option (Int32 × Mem) := rd μ k1 ((μ 9 6) - 1) (fun v1 => rr 80 v1 (fun t2 => rd μ k1 0 (fun v3 => rd μ t2 v3 (fun v4 => fX8_roundOfWays_26 F k1 F ((μ 9 6) - 1) v4 0 μ))))
-- OvenHouse.through
def fX8_through_54_b (F : Nat)  (rec54 : Int32 → Int32 → Int32 → Mem → Option (Int32 × Mem)) (y1 : Int32) (y2 : Int32) (y3 : Int32) (μ : Mem) : Option (Int32 × Mem) := (if 5040 ≤ y3 then some (y1, μ) else (if y2 ≤ 0 then some (y1, μ) else cal (fX8_roundOfWays F 72 μ) (fun r4 m3 => cal (fX6_step F m3) (fun r6 m5 => rec54 (imin y1 r4) r6 (y3 + 1) m5))))
def fX8_through_54 (F : Nat)  : Nat → Int32 → Int32 → Int32 → Mem → Option (Int32 × Mem)
  | 0 => fun _ _ _ _ => none
  | n + 1 => fX8_through_54_b F   (fX8_through_54 F   n)
def fX8_through (F : Nat) (μ : Mem) : Option (Int32 × Mem) := (if (μ 9 6) = 0 then some ((-5), μ) else (if (μ 9 6) ≤ 8 then cav (fX8_layWays F μ) (fun m1 => cav (fX6_begin F (m1 9 6) m1) (fun m2 => fX8_through_54 F F 2147483647 1 0 m2)) else some ((-4), μ)))
-- OvenHouse.batches
def fX8_batches_47_b (F : Nat)  (rec47 : Int32 → Int32 → Int32 → Mem → Option (Int32 × Mem)) (y1 : Int32) (y2 : Int32) (y3 : Int32) (μ : Mem) : Option (Int32 × Mem) := (if y3 < 0 then some (y2, μ) else rd μ 79 y3 (fun v2 => rd μ 11 v2 (fun v3 => rec47 y1 (y2 + v3) (y3 - y1) μ)))
def fX8_batches_47 (F : Nat)  : Nat → Int32 → Int32 → Int32 → Mem → Option (Int32 × Mem)
  | 0 => fun _ _ _ _ => none
  | n + 1 => fX8_batches_47_b F   (fX8_batches_47 F   n)
def fX8_batches (F : Nat) (x1 : Int32) (μ : Mem) : Option (Int32 × Mem) := (if x1 < 1 then some ((-2), μ) else (if x1 ≤ 40 then cav (fX8_rank F 11 (μ 9 6) 79 μ) (fun m1 => fX8_batches_47 F F x1 0 ((m1 9 6) - 1) m1) else some ((-2), μ)))
-- OvenHouse.count
def fX8_count (F : Nat) (x1 : Int32) (μ : Mem) : Option (Int32 × Mem) := (if x1 = 0 then some ((μ 9 6), μ) else (if x1 = 1 then cal (fX3_sum F 10 μ) (fun r2 m1 => some (r2, m1)) else (if x1 = 2 then cal (fX3_sum F 11 μ) (fun r4 m3 => some (r4, m3)) else (if x1 = 3 then (if (μ 53 2) = 0 then some (0, μ) else some (1, μ)) else (if x1 = 4 then some ((μ 16 2), μ) else (if x1 = 5 then some ((μ 1 3), μ) else some ((-2), μ)))))))
-- OvenHouse.digest
def fX8_digest_20_b (F : Nat)  (rec6 : Int64 → Int32 → Mem → Option (Int64 × Mem)) (rec20 : Int64 → Int32 → Int32 → Mem → Option (Int64 × Mem)) (y1 : Int64) (y3 : Int32) (y4 : Int32) (μ : Mem) : Option (Int64 × Mem) := (if 5 < y4 then rec6 y1 (y3 + 1) μ else cal (fX8_of F y3 y4 μ) (fun r3 m2 => rec20 ((31 * y1) + r3.toInt64) y3 (y4 + 1) m2))
def fX8_digest_20 (F : Nat)  (rec6 : Int64 → Int32 → Mem → Option (Int64 × Mem)) : Nat → Int64 → Int32 → Int32 → Mem → Option (Int64 × Mem)
  | 0 => fun _ _ _ _ => none
  | n + 1 => fX8_digest_20_b F  rec6 (fX8_digest_20 F  rec6 n)
def fX8_digest_91_b (F : Nat)  (rec91 : Int64 → Int32 → Mem → Option (Int64 × Mem)) (y1 : Int64) (y3 : Int32) (μ : Mem) : Option (Int64 × Mem) := (if 8 ≤ y3 then some (y1, μ) else rd μ 74 y3 (fun v4 => rd μ 75 y3 (fun v5 => rec91 ((31 * ((31 * y1) + v4.toInt64)) + v5.toInt64) (y3 + 1) μ)))
def fX8_digest_91 (F : Nat)  : Nat → Int64 → Int32 → Mem → Option (Int64 × Mem)
  | 0 => fun _ _ _ => none
  | n + 1 => fX8_digest_91_b F   (fX8_digest_91 F   n)
def fX8_digest_55_b (F : Nat)  (rec55 : Int64 → Int32 → Mem → Option (Int64 × Mem)) (y1 : Int64) (y3 : Int32) (μ : Mem) : Option (Int64 × Mem) := (if (μ 9 6) ≤ y3 then fX8_digest_91 F F y1 0 μ else rd μ 14 y3 (fun v1 => rec55 ((31 * y1) + v1.toInt64) (y3 + 1) μ))
def fX8_digest_55 (F : Nat)  : Nat → Int64 → Int32 → Mem → Option (Int64 × Mem)
  | 0 => fun _ _ _ => none
  | n + 1 => fX8_digest_55_b F   (fX8_digest_55 F   n)
def fX8_digest_6_b (F : Nat)  (rec6 : Int64 → Int32 → Mem → Option (Int64 × Mem)) (y1 : Int64) (y3 : Int32) (μ : Mem) : Option (Int64 × Mem) := (if (μ 9 6) ≤ y3 then fX8_digest_55 F F y1 0 μ else fX8_digest_20 F rec6 F y1 y3 0 μ)
def fX8_digest_6 (F : Nat)  : Nat → Int64 → Int32 → Mem → Option (Int64 × Mem)
  | 0 => fun _ _ _ => none
  | n + 1 => fX8_digest_6_b F   (fX8_digest_6 F   n)
def fX8_digest (F : Nat) (μ : Mem) : Option (Int64 × Mem) := fX8_digest_6 F F 17 0 μ
-- OvenHouseModel.in
def fX9_in (F : Nat) (x0 : Int64) (x2 : Int64) (x4 : Int64) (μ : Mem) : Option (Int32 × Mem) := (if x0 < x2 then zr 0 μ else (if x4 < x0 then zr 0 μ else zr 1 μ))
-- OvenHouseModel.met
def fX9_met (F : Nat) (x1 : Int32) (μ : Mem) : Option (Int32 × Mem) := st μ 89 0 x1 (fun m1 => some (((-10) - x1), m1))
-- OvenHouseModel.isSheet
def fX9_isSheet (F : Nat) (x0 : Int32) (μ : Mem) : Option (Int32 × Mem) := cal (fX9_in F x0.toInt64 0 3 μ) (fun r2 m1 => zr r2 m1)
-- OvenHouseModel.sheet
def fX9_sheet_55_b (F : Nat)  (rec55 : Int32 → Int32 → Int32 → Mem → Option (Int32 × Mem)) (y1 : Int32) (y3 : Int32) (y4 : Int32) (μ : Mem) : Option (Int32 × Mem) := (if y3 ≤ y4 then some (y3, μ) else wr μ 92 ((40 * y1) + y4) 0 (fun m9 => rec55 y1 y3 (y4 + 1) m9))
def fX9_sheet_55 (F : Nat)  : Nat → Int32 → Int32 → Int32 → Mem → Option (Int32 × Mem)
  | 0 => fun _ _ _ _ => none
  | n + 1 => fX9_sheet_55_b F   (fX9_sheet_55 F   n)
def fX9_sheet (F : Nat) (x1 : Int32) (x2 : Int32) (x3 : Int32) (μ : Mem) : Option (Int32 × Mem) := cal (fX9_isSheet F x1 μ) (fun r2 m1 => (if r2 = 0 then some ((-2), m1) else cal (fX9_in F x2.toInt64 0 2 m1) (fun r4 m3 => (if r4 = 0 then some ((-2), m3) else (if x3 ≤ 40 then (if 0 ≤ x3 then wr m3 90 x1 x2 (fun m5 => wr m5 91 x1 x3 (fun m6 => fX9_sheet_55 F F x1 x3 0 m6)) else cal (fX9_met F 5 m3) (fun r8 m7 => some (r8, m7))) else some ((-2), m3))))))
-- OvenHouseModel.lose
def fX9_lose (F : Nat) (x1 : Int32) (μ : Mem) : Option (Int32 × Mem) := cal (fX9_isSheet F x1 μ) (fun r2 m1 => (if r2 = 0 then some ((-2), m1) else rd m1 90 x1 (fun v3 => (if 0 ≤ v3 then wr m1 90 x1 (-1) (fun m4 => rd m4 91 x1 (fun v5 => some (v5, m4))) else cal (fX9_met F 1 m1) (fun r7 m6 => some (r7, m6))))))
-- OvenHouseModel.lacks
def fX9_lacks (F : Nat) (x1 : Int32) (x2 : Int32) (x3 : Int32) (μ : Mem) : Option (Int32 × Mem) := rd μ 90 x1 (fun v1 => (if 0 ≤ v1 then rd μ 90 x1 (fun v2 => (if v2 = x2 then rd μ 91 x1 (fun v3 => cal (fX9_in F x3.toInt64 0 ((v3 - 1).toInt64) μ) (fun r5 m4 => (if r5 = 0 then cal (fX9_met F 2 m4) (fun r7 m6 => some (r7, m6)) else some (0, m4)))) else cal (fX9_met F 3 μ) (fun r9 m8 => some (r9, m8)))) else cal (fX9_met F 1 μ) (fun r11 m10 => some (r11, m10))))
-- OvenHouseModel.put
def fX9_put (F : Nat) (x1 : Int32) (x2 : Int32) (x3 : Int32) (x4 : Int32) (μ : Mem) : Option (Int32 × Mem) := cal (fX9_isSheet F x1 μ) (fun r2 m1 => (if r2 = 0 then some ((-2), m1) else cal (fX9_in F x2.toInt64 0 2 m1) (fun r4 m3 => (if r4 = 0 then some ((-2), m3) else cal (fX9_lacks F x1 x2 x3 m3) (fun r6 m5 => (if r6 = 0 then (if x2 = 0 then wr m5 92 ((40 * x1) + x3) x4.toInt8.toInt32 (fun m9 => some (1, m9)) else (if x2 = 1 then wr m5 92 ((40 * x1) + x3) x4.toInt16.toInt32 (fun m8 => some (1, m8)) else wr m5 92 ((40 * x1) + x3) x4 (fun m7 => some (1, m7)))) else some (r6, m5)))))))
-- OvenHouseModel.get
def fX9_get (F : Nat) (x1 : Int32) (x2 : Int32) (x3 : Int32) (μ : Mem) : Option (Int32 × Mem) := cal (fX9_isSheet F x1 μ) (fun r2 m1 => (if r2 = 0 then some ((-2147483648), m1) else cal (fX9_in F x2.toInt64 0 2 m1) (fun r4 m3 => (if r4 = 0 then some ((-2147483648), m3) else cal (fX9_lacks F x1 x2 x3 m3) (fun r6 m5 => (if r6 = 0 then rd m5 92 ((40 * x1) + x3) (fun v7 => some (v7, m5)) else some ((-2147483648), m5)))))))
-- OvenHouseModel.copy
def fX9_copy_157_b (F : Nat)  (rec157 : Int32 → Int32 → Int32 → Int32 → Mem → Option (Int32 × Mem)) (y3 : Int32) (y4 : Int32) (y5 : Int32) (y6 : Int32) (μ : Mem) : Option (Int32 × Mem) := (if y5 ≤ y6 then some (1, μ) else rd μ 93 y6 (fun v29 => wr μ 92 (((40 * y3) + y4) + y6) v29 (fun m30 => rec157 y3 y4 y5 (y6 + 1) m30)))
def fX9_copy_157 (F : Nat)  : Nat → Int32 → Int32 → Int32 → Int32 → Mem → Option (Int32 × Mem)
  | 0 => fun _ _ _ _ _ => none
  | n + 1 => fX9_copy_157_b F   (fX9_copy_157 F   n)
def fX9_copy_120_b (F : Nat)  (rec120 : Int32 → Int32 → Int32 → Int32 → Int32 → Int32 → Mem → Option (Int32 × Mem)) (y1 : Int32) (y2 : Int32) (y3 : Int32) (y4 : Int32) (y5 : Int32) (y6 : Int32) (μ : Mem) : Option (Int32 × Mem) := (if y5 ≤ y6 then fX9_copy_157 F F y3 y4 y5 0 μ else rd μ 92 (((40 * y1) + y2) + y6) (fun v27 => wr μ 93 y6 v27 (fun m28 => rec120 y1 y2 y3 y4 y5 (y6 + 1) m28)))
def fX9_copy_120 (F : Nat)  : Nat → Int32 → Int32 → Int32 → Int32 → Int32 → Int32 → Mem → Option (Int32 × Mem)
  | 0 => fun _ _ _ _ _ _ _ => none
  | n + 1 => fX9_copy_120_b F   (fX9_copy_120 F   n)
def fX9_copy (F : Nat) (x1 : Int32) (x2 : Int32) (x3 : Int32) (x4 : Int32) (x5 : Int32) (μ : Mem) : Option (Int32 × Mem) := cal (fX9_isSheet F x1 μ) (fun r2 m1 => (if r2 = 0 then some ((-2), m1) else cal (fX9_isSheet F x3 m1) (fun r4 m3 => (if r4 = 0 then some ((-2), m3) else rd m3 90 x1 (fun v5 => (if v5 < 0 then cal (fX9_met F 1 m3) (fun r7 m6 => some (r7, m6)) else rd m3 90 x3 (fun v8 => (if 0 ≤ v8 then rd m3 90 x1 (fun v9 => rd m3 90 x3 (fun v10 => (if v9 = v10 then (if x2 < 0 then cal (fX9_met F 2 m3) (fun r12 m11 => some (r12, m11)) else (if x4 < 0 then cal (fX9_met F 2 m3) (fun r14 m13 => some (r14, m13)) else (if x5 < 0 then cal (fX9_met F 2 m3) (fun r16 m15 => some (r16, m15)) else rd m3 91 x1 (fun v17 => (if v17.toInt64 < (x2.toInt64 + x5.toInt64) then cal (fX9_met F 2 m3) (fun r19 m18 => some (r19, m18)) else rd m3 91 x3 (fun v20 => (if (x4.toInt64 + x5.toInt64) ≤ v20.toInt64 then fX9_copy_120 F F x1 x2 x3 x4 x5 0 m3 else cal (fX9_met F 2 m3) (fun r22 m21 => some (r22, m21))))))))) else cal (fX9_met F 4 m3) (fun r24 m23 => some (r24, m23))))) else cal (fX9_met F 1 m3) (fun r26 m25 => some (r26, m25))))))))))
-- OvenHouseModel.copyAll
def fX9_copyAll_14_b (F : Nat)  (rec14 : Int32 → Int32 → Int32 → Mem → Option Mem) (y1 : Int32) (y2 : Int32) (y3 : Int32) (μ : Mem) : Option Mem := rd μ 94 y1 (fun v3 => (if v3 ≤ y3 then some μ else rd μ 95 ((40 * y1) + y3) (fun v4 => wr μ 95 ((40 * y2) + y3) v4 (fun m5 => rd m5 96 ((40 * y1) + y3) (fun v6 => wr m5 96 ((40 * y2) + y3) v6 (fun m7 => rd m7 97 ((40 * y1) + y3) (fun v8 => wr m7 97 ((40 * y2) + y3) v8 (fun m9 => rd m9 98 ((40 * y1) + y3) (fun v10 => wr m9 98 ((40 * y2) + y3) v10 (fun m11 => rd m11 99 ((40 * y1) + y3) (fun v12 => wr m11 99 ((40 * y2) + y3) v12 (fun m13 => rec14 y1 y2 (y3 + 1) m13))))))))))))
def fX9_copyAll_14 (F : Nat)  : Nat → Int32 → Int32 → Int32 → Mem → Option Mem
  | 0 => fun _ _ _ _ => none
  | n + 1 => fX9_copyAll_14_b F   (fX9_copyAll_14 F   n)
def fX9_copyAll (F : Nat) (x1 : Int32) (x2 : Int32) (μ : Mem) : Option Mem := rd μ 94 x1 (fun v1 => wr μ 94 x2 v1 (fun m2 => fX9_copyAll_14 F F x1 x2 0 m2))
-- OvenHouseModel.keep
def fX9_keep_34 (F : Nat)  (μ : Mem) : Option Mem := st μ 89 11 ((μ 89 11) + 1) (fun m1 => cav (fX9_copyAll F 0 (m1 89 11) m1) (fun m2 => some m2))
def fX9_keep_10_b (F : Nat)  (rec10 : Int32 → Mem → Option Mem) (y1 : Int32) (μ : Mem) : Option Mem := (if 5 ≤ y1 then st μ 89 11 4 (fun m3 => fX9_keep_34 F m3) else cav (fX9_copyAll F (y1 + 1) y1 μ) (fun m4 => rec10 (y1 + 1) m4))
def fX9_keep_10 (F : Nat)  : Nat → Int32 → Mem → Option Mem
  | 0 => fun _ _ => none
  | n + 1 => fX9_keep_10_b F   (fX9_keep_10 F   n)
def fX9_keep (F : Nat) (μ : Mem) : Option Mem := (if (μ 89 11) = 5 then fX9_keep_10 F F 1 μ else fX9_keep_34 F μ)
-- OvenHouseModel.undo
def fX9_undo (F : Nat) (μ : Mem) : Option (Int32 × Mem) := (if (μ 89 11) = 0 then some ((-5), μ) else cav (fX9_copyAll F (μ 89 11) 0 μ) (fun m1 => st m1 89 11 ((m1 89 11) - 1) (fun m2 => st m2 89 15 0 (fun m3 => some ((m3 89 11), m3)))))
-- OvenHouseModel.come
def fX9_come (F : Nat) (x1 : Int32) (x2 : Int32) (μ : Mem) : Option Mem := rd μ 94 0 (fun v1 => wr μ 95 v1 x1 (fun m2 => wr m2 96 v1 x2 (fun m3 => wr m3 97 v1 0 (fun m4 => wr m4 98 v1 0 (fun m5 => wr m5 99 v1 v1 (fun m6 => rd m6 94 0 (fun v7 => wr m6 94 0 (v7 + 1) (fun m8 => st m8 89 15 0 (fun m9 => some m9)))))))))
-- OvenHouseModel.take
def fX9_take_166_b (F : Nat)  (rec166 : Int32 → Int32 → Int32 → Int32 → Mem → Option (Int32 × Mem)) (y1 : Int32) (y2 : Int32) (y3 : Int32) (y4 : Int32) (μ : Mem) : Option (Int32 × Mem) := (if y3 ≤ y4 then rd μ 94 0 (fun v27 => some (v27, μ)) else rd μ 92 ((40 * y1) + y4) (fun v28 => rd μ 92 ((40 * y2) + y4) (fun v29 => cav (fX9_come F v28 v29 μ) (fun m30 => rec166 y1 y2 y3 (y4 + 1) m30))))
def fX9_take_166 (F : Nat)  : Nat → Int32 → Int32 → Int32 → Int32 → Mem → Option (Int32 × Mem)
  | 0 => fun _ _ _ _ _ => none
  | n + 1 => fX9_take_166_b F   (fX9_take_166 F   n)
def fX9_take_98_b (F : Nat)  (rec98 : Int32 → Int32 → Int32 → Int32 → Mem → Option (Int32 × Mem)) (y1 : Int32) (y2 : Int32) (y3 : Int32) (y4 : Int32) (μ : Mem) : Option (Int32 × Mem) := (if y3 ≤ y4 then cav (fX9_keep F μ) (fun m20 => fX9_take_166 F F y1 y2 y3 0 m20) else rd μ 92 ((40 * y1) + y4) (fun v21 => cal (fX9_in F v21.toInt64 0 100000 μ) (fun r23 m22 => (if r23 = 0 then some ((-2), m22) else rd m22 92 ((40 * y2) + y4) (fun v24 => cal (fX9_in F v24.toInt64 0 100000 m22) (fun r26 m25 => (if r26 = 0 then some ((-2), m25) else rec98 y1 y2 y3 (y4 + 1) m25)))))))
def fX9_take_98 (F : Nat)  : Nat → Int32 → Int32 → Int32 → Int32 → Mem → Option (Int32 × Mem)
  | 0 => fun _ _ _ _ _ => none
  | n + 1 => fX9_take_98_b F   (fX9_take_98 F   n)
def fX9_take (F : Nat) (x1 : Int32) (x2 : Int32) (x3 : Int32) (μ : Mem) : Option (Int32 × Mem) := cal (fX9_isSheet F x1 μ) (fun r2 m1 => (if r2 = 0 then some ((-2), m1) else cal (fX9_isSheet F x2 m1) (fun r4 m3 => (if r4 = 0 then some ((-2), m3) else cal (fX9_in F x3.toInt64 1 40 m3) (fun r6 m5 => (if r6 = 0 then some ((-2), m5) else rd m5 94 0 (fun v7 => (if (v7 + x3) ≤ 40 then rd m5 90 x1 (fun v8 => (if v8 < 0 then cal (fX9_met F 1 m5) (fun r10 m9 => some (r10, m9)) else rd m5 90 x2 (fun v11 => (if 0 ≤ v11 then rd m5 91 x1 (fun v12 => (if v12 < x3 then cal (fX9_met F 2 m5) (fun r14 m13 => some (r14, m13)) else rd m5 91 x2 (fun v15 => (if x3 ≤ v15 then fX9_take_98 F F x1 x2 x3 0 m5 else cal (fX9_met F 2 m5) (fun r17 m16 => some (r17, m16)))))) else cal (fX9_met F 1 m5) (fun r19 m18 => some (r19, m18)))))) else some ((-3), m5)))))))))
-- OvenHouseModel.loaf
def fX9_loaf (F : Nat) (x1 : Int32) (x2 : Int32) (μ : Mem) : Option (Int32 × Mem) := cal (fX9_in F x1.toInt64 0 100000 μ) (fun r2 m1 => (if r2 = 0 then some ((-2), m1) else cal (fX9_in F x2.toInt64 0 100000 m1) (fun r4 m3 => (if r4 = 0 then some ((-2), m3) else rd m3 94 0 (fun v5 => (if v5 = 40 then some ((-3), m3) else cav (fX9_keep F m3) (fun m6 => cav (fX9_come F x1 x2 m6) (fun m7 => rd m7 94 0 (fun v8 => some ((v8 - 1), m7))))))))))
-- OvenHouseModel.isLoaf
def fX9_isLoaf (F : Nat) (x1 : Int32) (μ : Mem) : Option (Int32 × Mem) := rd μ 94 0 (fun v1 => cal (fX9_in F x1.toInt64 0 ((v1 - 1).toInt64) μ) (fun r3 m2 => zr r3 m2))
-- OvenHouseModel.kindOf
def fX9_kindOf (F : Nat) (x1 : Int32) (μ : Mem) : Option (Int32 × Mem) := rd μ 95 x1 (fun v1 => (if v1 = 0 then some (3, μ) else rd μ 96 x1 (fun v2 => (if v2 = 0 then some (4, μ) else rd μ 95 x1 (fun v3 => rd μ 96 x1 (fun v4 => (if v4 < v3 then some (2, μ) else some (1, μ))))))))
-- OvenHouseModel.placeOf
def fX9_placeOf_2_b (F : Nat)  (rec2 : Int32 → Int32 → Mem → Option (Int32 × Mem)) (y1 : Int32) (y2 : Int32) (μ : Mem) : Option (Int32 × Mem) := rd μ 99 y2 (fun v1 => (if v1 = y1 then some (y2, μ) else rec2 y1 (y2 + 1) μ))
def fX9_placeOf_2 (F : Nat)  : Nat → Int32 → Int32 → Mem → Option (Int32 × Mem)
  | 0 => fun _ _ _ => none
  | n + 1 => fX9_placeOf_2_b F   (fX9_placeOf_2 F   n)
def fX9_placeOf (F : Nat) (x1 : Int32) (μ : Mem) : Option (Int32 × Mem) := fX9_placeOf_2 F F x1 0 μ
-- OvenHouseModel.of
def fX9_of (F : Nat) (x1 : Int32) (x2 : Int32) (μ : Mem) : Option (Int32 × Mem) := cal (fX9_isLoaf F x1 μ) (fun r2 m1 => (if r2 = 0 then some ((-2), m1) else (if x2 = 0 then rd m1 95 x1 (fun v3 => some (v3, m1)) else (if x2 = 1 then rd m1 96 x1 (fun v4 => some (v4, m1)) else (if x2 = 2 then rd m1 97 x1 (fun v5 => some (v5, m1)) else (if x2 = 3 then rd m1 98 x1 (fun v6 => some (v6, m1)) else (if x2 = 4 then cal (fX9_kindOf F x1 m1) (fun r8 m7 => some (r8, m7)) else (if x2 = 5 then cal (fX9_placeOf F x1 m1) (fun r10 m9 => some (r10, m9)) else some ((-2), m1)))))))))
-- OvenHouseModel.heat
def fX9_heat (F : Nat) (x1 : Int32) (x2 : Int32) (x3 : Int32) (μ : Mem) : Option (Int32 × Mem) := cal (fX9_isLoaf F x1 μ) (fun r2 m1 => (if r2 = 0 then some ((-2), m1) else cal (fX9_in F x2.toInt64 0 399 m1) (fun r4 m3 => (if r4 = 0 then some ((-2), m3) else cal (fX9_in F x3.toInt64 0 399 m3) (fun r6 m5 => (if r6 = 0 then some ((-2), m5) else cav (fX9_keep F m5) (fun m7 => wr m7 97 x1 x2 (fun m8 => wr m8 98 x1 x3 (fun m9 => some (1, m9))))))))))
-- OvenHouseModel.price
def fX9_price (F : Nat) (x1 : Int32) (x2 : Int32) (x3 : Int32) (μ : Mem) : Option (Int32 × Mem) := cal (fX9_in F x1.toInt64 0 7 μ) (fun r2 m1 => (if r2 = 0 then some ((-2), m1) else cal (fX9_in F x2.toInt64 (-100) 100 m1) (fun r4 m3 => (if r4 = 0 then some ((-2), m3) else cal (fX9_in F x3.toInt64 (-100) 100 m3) (fun r6 m5 => (if r6 = 0 then some ((-2), m5) else wr m5 101 x1 x2 (fun m7 => wr m7 102 x1 x3 (fun m8 => some (1, m8)))))))))
-- OvenHouseModel.at
def fX9_at (F : Nat) (x1 : Int32) (μ : Mem) : Option (Int32 × Mem) := cal (fX9_isLoaf F x1 μ) (fun r2 m1 => (if r2 = 0 then some ((-1), m1) else rd m1 99 x1 (fun v3 => some (v3, m1))))
-- OvenHouseModel.swap
def fX9_swap (F : Nat) (x1 : Int32) (x2 : Int32) (μ : Mem) : Option (Int32 × Mem) := cal (fX9_isLoaf F x1 μ) (fun r2 m1 => (if r2 = 0 then some ((-2), m1) else cal (fX9_isLoaf F x2 m1) (fun r4 m3 => (if r4 = 0 then some ((-2), m3) else cav (fX9_keep F m3) (fun m5 => rd m5 99 x1 (fun v6 => rd m5 99 x2 (fun v7 => wr m5 99 x1 v7 (fun m8 => wr m8 99 x2 v6 (fun m9 => some (1, m9))))))))))
-- OvenHouseModel.isAhead
def fX9_isAhead_80 (F : Nat)  (y1 : Int32) (y2 : Int32) (z0 : Int32) (μ : Mem) : Option (Int32 × Mem) := (if z0 < 0 then zr 1 μ else (if z0 = 0 then (if y2 ≤ y1 then zr 0 μ else zr 1 μ) else zr 0 μ))
def fX9_isAhead_42 (F : Nat)  (y1 : Int32) (y2 : Int32) (y3 : Int32) (z0 : Int32) (z1 : Int32) (μ : Mem) : Option (Int32 × Mem) := (if z1 = z0 then (if y3 = 0 then rd μ 96 y2 (fun v5 => rd μ 96 y1 (fun v6 => fX9_isAhead_80 F y1 y2 (v5 - v6) μ)) else rd μ 95 y1 (fun v7 => rd μ 95 y2 (fun v8 => fX9_isAhead_80 F y1 y2 (v7 - v8) μ))) else zr y3 μ)
def fX9_isAhead_20 (F : Nat)  (y1 : Int32) (y2 : Int32) (z0 : Int32) (μ : Mem) : Option (Int32 × Mem) := rd μ 95 y2 (fun v3 => rd μ 96 y2 (fun v4 => (if v4 < v3 then fX9_isAhead_42 F y1 y2 z0 0 z0 μ else fX9_isAhead_42 F y1 y2 z0 1 z0 μ)))
def fX9_isAhead (F : Nat) (x1 : Int32) (x2 : Int32) (μ : Mem) : Option (Int32 × Mem) := rd μ 95 x1 (fun v1 => rd μ 96 x1 (fun v2 => (if v2 < v1 then fX9_isAhead_20 F x1 x2 0 μ else fX9_isAhead_20 F x1 x2 1 μ)))
-- OvenHouseModel.byRule
def fX9_byRule_45 (F : Nat) (k1 : Nat) (rec2 : Int32 → Mem → Option Mem) (y2 : Int32) (y3 : Int32) (μ : Mem) : Option Mem := wr μ k1 y3 y2 (fun m7 => rec2 (y2 + 1) m7)
def fX9_byRule_14_b (F : Nat) (k1 : Nat) (rec2 : Int32 → Mem → Option Mem) (rec14 : Int32 → Int32 → Mem → Option Mem) (y2 : Int32) (y3 : Int32) (μ : Mem) : Option Mem := (if y3 ≤ 0 then fX9_byRule_45 F k1 rec2 y2 y3 μ else rd μ k1 (y3 - 1) (fun v2 => cal (fX9_isAhead F y2 v2 μ) (fun r4 m3 => (if r4 = 0 then fX9_byRule_45 F k1 rec2 y2 y3 m3 else rd m3 k1 (y3 - 1) (fun v5 => wr m3 k1 y3 v5 (fun m6 => rec14 y2 (y3 + (-1)) m6))))))
def fX9_byRule_14 (F : Nat) (k1 : Nat) (rec2 : Int32 → Mem → Option Mem) : Nat → Int32 → Int32 → Mem → Option Mem
  | 0 => fun _ _ _ => none
  | n + 1 => fX9_byRule_14_b F k1 rec2 (fX9_byRule_14 F k1 rec2 n)
def fX9_byRule_2_b (F : Nat) (k1 : Nat) (rec2 : Int32 → Mem → Option Mem) (y2 : Int32) (μ : Mem) : Option Mem := rd μ 94 0 (fun v1 => (if v1 ≤ y2 then some μ else fX9_byRule_14 F k1 rec2 F y2 y2 μ))
def fX9_byRule_2 (F : Nat) (k1 : Nat) : Nat → Int32 → Mem → Option Mem
  | 0 => fun _ _ => none
  | n + 1 => fX9_byRule_2_b F k1  (fX9_byRule_2 F k1  n)
def fX9_byRule (F : Nat) (k1 : Nat) (μ : Mem) : Option Mem := fX9_byRule_2 F k1 F 0 μ
-- OvenHouseModel.endOf
def fX9_endOf_88 (F : Nat) (k1 : Nat) (rec9 : Int32 → Int32 → Int32 → Int32 → Int32 → Mem → Option (Int32 × Mem)) (y2 : Int32) (y3 : Int32) (y6 : Int32) (y7 : Int32) (y8 : Int32) (y9 : Int32) (z0 : Int32) (μ : Mem) : Option (Int32 × Mem) := wr μ 103 y6 y8 (fun m6 => wr m6 104 y6 z0 (fun m7 => rd m7 96 y7 (fun v8 => (if y2 = 2 then (if y6 < y3 then rec9 y2 y3 y9 (z0 + v8) (y6 + 1) m7 else rd m7 104 (y6 - y3) (fun v9 => (if v9 ≤ y9 then rec9 y2 y3 y9 (z0 + v8) (y6 + 1) m7 else rd m7 104 (y6 - y3) (fun v10 => rec9 y2 y3 v10 (z0 + v8) (y6 + 1) m7)))) else rec9 y2 y3 y9 (z0 + v8) (y6 + 1) m7))))
def fX9_endOf_60 (F : Nat) (k1 : Nat) (rec9 : Int32 → Int32 → Int32 → Int32 → Int32 → Mem → Option (Int32 × Mem)) (y2 : Int32) (y3 : Int32) (y5 : Int32) (y6 : Int32) (y7 : Int32) (z0 : Int32) (μ : Mem) : Option (Int32 × Mem) := rd μ 95 y7 (fun v5 => (if (z0 + v5) ≤ y5 then fX9_endOf_88 F k1 rec9 y2 y3 y6 y7 z0 (z0 + v5) y5 μ else fX9_endOf_88 F k1 rec9 y2 y3 y6 y7 z0 (z0 + v5) (z0 + v5) μ))
def fX9_endOf_9_b (F : Nat) (k1 : Nat) (rec9 : Int32 → Int32 → Int32 → Int32 → Int32 → Mem → Option (Int32 × Mem)) (y2 : Int32) (y3 : Int32) (y4 : Int32) (y5 : Int32) (y6 : Int32) (μ : Mem) : Option (Int32 × Mem) := rd μ 94 0 (fun v1 => (if v1 ≤ y6 then some (y5, μ) else rd μ k1 y6 (fun v2 => (if y2 = 0 then rd μ 95 v2 (fun v3 => (if (y5 - v3) ≤ y4 then fX9_endOf_60 F k1 rec9 y2 y3 y5 y6 v2 y4 μ else rd μ 95 v2 (fun v4 => fX9_endOf_60 F k1 rec9 y2 y3 y5 y6 v2 (y5 - v4) μ))) else fX9_endOf_60 F k1 rec9 y2 y3 y5 y6 v2 y4 μ))))
def fX9_endOf_9 (F : Nat) (k1 : Nat) : Nat → Int32 → Int32 → Int32 → Int32 → Int32 → Mem → Option (Int32 × Mem)
  | 0 => fun _ _ _ _ _ _ => none
  | n + 1 => fX9_endOf_9_b F k1  (fX9_endOf_9 F k1  n)
def fX9_endOf (F : Nat) (k1 : Nat) (x2 : Int32) (x3 : Int32) (μ : Mem) : Option (Int32 × Mem) := fX9_endOf_9 F k1 F x2 x3 0 0 0 μ
-- OvenHouseModel.rule
def fX9_rule (F : Nat) (μ : Mem) : Option (Int32 × Mem) := cav (fX9_keep F μ) (fun m1 => cav (fX9_byRule F 99 m1) (fun m2 => cal (fX9_endOf F 99 1 0 m2) (fun r4 m3 => some (r4, m3))))
-- OvenHouseModel.use
def fX9_use_23_b (F : Nat)  (rec23 : Int32 → Mem → Option (Int32 × Mem)) (y1 : Int32) (μ : Mem) : Option (Int32 × Mem) := rd μ 94 0 (fun v2 => (if v2 ≤ y1 then some (1, μ) else rd μ 100 y1 (fun v3 => wr μ 99 y1 v3 (fun m4 => rec23 (y1 + 1) m4))))
def fX9_use_23 (F : Nat)  : Nat → Int32 → Mem → Option (Int32 × Mem)
  | 0 => fun _ _ => none
  | n + 1 => fX9_use_23_b F   (fX9_use_23 F   n)
def fX9_use (F : Nat) (μ : Mem) : Option (Int32 × Mem) := (if (μ 89 14) = 0 then some ((-5), μ) else (if (μ 89 15) = 0 then some ((-5), μ) else cav (fX9_keep F μ) (fun m1 => fX9_use_23 F F 0 m1)))
-- OvenHouseModel.turn
def fX9_turn_80_b (F : Nat)  (rec80 : Int32 → Int32 → Mem → Option (Int32 × Mem)) (y1 : Int32) (y2 : Int32) (μ : Mem) : Option (Int32 × Mem) := (if (y1 - 1) ≤ (2 * y2) then st μ 89 15 0 (fun m11 => some (1, m11)) else rd μ 99 y2 (fun v12 => rd μ 99 ((y1 - 1) - y2) (fun v13 => wr μ 99 y2 v13 (fun m14 => wr m14 99 ((y1 - 1) - y2) v12 (fun m15 => rec80 y1 (y2 + 1) m15)))))
def fX9_turn_80 (F : Nat)  : Nat → Int32 → Int32 → Mem → Option (Int32 × Mem)
  | 0 => fun _ _ _ => none
  | n + 1 => fX9_turn_80_b F   (fX9_turn_80 F   n)
def fX9_turn_13_b (F : Nat)  (rec13 : Int32 → Int32 → Mem → Option (Int32 × Mem)) (y1 : Int32) (y2 : Int32) (μ : Mem) : Option (Int32 × Mem) := (if y1 ≤ y2 then fX9_turn_80 F F y1 0 μ else rd μ 95 y2 (fun v3 => rd μ 96 y2 (fun v4 => wr μ 95 y2 v4 (fun m5 => wr m5 96 y2 v3 (fun m6 => rd m6 97 y2 (fun v7 => rd m6 98 y2 (fun v8 => wr m6 97 y2 v8 (fun m9 => wr m9 98 y2 v7 (fun m10 => rec13 y1 (y2 + 1) m10)))))))))
def fX9_turn_13 (F : Nat)  : Nat → Int32 → Int32 → Mem → Option (Int32 × Mem)
  | 0 => fun _ _ _ => none
  | n + 1 => fX9_turn_13_b F   (fX9_turn_13 F   n)
def fX9_turn (F : Nat) (μ : Mem) : Option (Int32 × Mem) := cav (fX9_keep F μ) (fun m1 => rd m1 94 0 (fun v2 => fX9_turn_13 F F v2 0 m1))
-- OvenHouseModel.isLaw
def fX9_isLaw_14 (F : Nat)  (y0 : Int32) (y1 : Int32) (μ : Mem) : Option (Int32 × Mem) := (if y0 = 2 then cal (fX9_in F y1.toInt64 1 5 μ) (fun r4 m3 => (if r4 = 0 then zr 0 m3 else zr 1 m3)) else zr 0 μ)
def fX9_isLaw (F : Nat) (x0 : Int32) (x1 : Int32) (μ : Mem) : Option (Int32 × Mem) := cal (fX9_in F x0.toInt64 0 1 μ) (fun r2 m1 => (if r2 = 0 then fX9_isLaw_14 F x0 x1 m1 else (if x1 = 0 then zr 1 m1 else fX9_isLaw_14 F x0 x1 m1)))
-- OvenHouseModel.day
def fX9_day (F : Nat) (x1 : Int32) (x2 : Int32) (μ : Mem) : Option (Int32 × Mem) := cal (fX9_isLaw F x1 x2 μ) (fun r2 m1 => (if r2 = 0 then some ((-2), m1) else cal (fX9_endOf F 99 x1 x2 m1) (fun r4 m3 => some (r4, m3))))
-- OvenHouseModel.moment
def fX9_moment (F : Nat) (x1 : Int32) (x2 : Int32) (x3 : Int32) (x4 : Int32) (μ : Mem) : Option (Int32 × Mem) := cal (fX9_isLaw F x1 x2 μ) (fun r2 m1 => (if r2 = 0 then some ((-2), m1) else cal (fX9_isLoaf F x3 m1) (fun r4 m3 => (if r4 = 0 then some ((-2), m3) else cal (fX9_in F x4.toInt64 0 3 m3) (fun r6 m5 => (if r6 = 0 then some ((-2), m5) else cal (fX9_endOf F 99 x1 x2 m5) (fun r8 m7 => rd m7 99 x3 (fun v9 => (if x4 = 0 then rd m7 103 x3 (fun v10 => some (v10, m7)) else (if x4 = 1 then rd m7 103 x3 (fun v11 => rd m7 95 v9 (fun v12 => some ((v11 + v12), m7))) else (if x4 = 2 then rd m7 104 x3 (fun v13 => some (v13, m7)) else rd m7 104 x3 (fun v14 => rd m7 96 v9 (fun v15 => some ((v14 + v15), m7))))))))))))))
-- OvenHouseModel.allMix
def fX9_allMix_4_b (F : Nat)  (rec4 : Int32 → Int32 → Mem → Option (Int32 × Mem)) (y1 : Int32) (y2 : Int32) (μ : Mem) : Option (Int32 × Mem) := rd μ 94 0 (fun v1 => (if v1 ≤ y2 then some (y1, μ) else rd μ 95 y2 (fun v2 => rec4 (y1 + v2) (y2 + 1) μ)))
def fX9_allMix_4 (F : Nat)  : Nat → Int32 → Int32 → Mem → Option (Int32 × Mem)
  | 0 => fun _ _ _ => none
  | n + 1 => fX9_allMix_4_b F   (fX9_allMix_4 F   n)
def fX9_allMix (F : Nat) (μ : Mem) : Option (Int32 × Mem) := fX9_allMix_4 F F 0 0 μ
-- OvenHouseModel.allBake
def fX9_allBake_4_b (F : Nat)  (rec4 : Int32 → Int32 → Mem → Option (Int32 × Mem)) (y1 : Int32) (y2 : Int32) (μ : Mem) : Option (Int32 × Mem) := rd μ 94 0 (fun v1 => (if v1 ≤ y2 then some (y1, μ) else rd μ 96 y2 (fun v2 => rec4 (y1 + v2) (y2 + 1) μ)))
def fX9_allBake_4 (F : Nat)  : Nat → Int32 → Int32 → Mem → Option (Int32 × Mem)
  | 0 => fun _ _ _ => none
  | n + 1 => fX9_allBake_4_b F   (fX9_allBake_4 F   n)
def fX9_allBake (F : Nat) (μ : Mem) : Option (Int32 × Mem) := fX9_allBake_4 F F 0 0 μ
-- OvenHouseModel.idle
def fX9_idle (F : Nat) (x1 : Int32) (x2 : Int32) (μ : Mem) : Option (Int32 × Mem) := cal (fX9_isLaw F x1 x2 μ) (fun r2 m1 => (if r2 = 0 then some ((-2), m1) else cal (fX9_endOf F 99 x1 x2 m1) (fun r4 m3 => cal (fX9_allBake F m3) (fun r6 m5 => some ((r4 - r6), m5)))))
-- OvenHouseModel.bound
def fX9_bound_57 (F : Nat)  (rec27 : Int32 → Int32 → Int32 → Mem → Option (Int32 × Mem)) (y2 : Int32) (y3 : Int32) (z0 : Int32) (μ : Mem) : Option (Int32 × Mem) := rd μ 96 y3 (fun v11 => (if y2 ≤ v11 then rec27 z0 y2 (y3 + 1) μ else rd μ 96 y3 (fun v12 => rec27 z0 v12 (y3 + 1) μ)))
def fX9_bound_27_b (F : Nat)  (rec27 : Int32 → Int32 → Int32 → Mem → Option (Int32 × Mem)) (y1 : Int32) (y2 : Int32) (y3 : Int32) (μ : Mem) : Option (Int32 × Mem) := rd μ 94 0 (fun v4 => (if v4 ≤ y3 then cal (fX9_allMix F μ) (fun r6 m5 => cal (fX9_allBake F m5) (fun r8 m7 => (if (r6 + y2) ≤ (r8 + y1) then some ((r8 + y1), m7) else some ((r6 + y2), m7)))) else rd μ 95 y3 (fun v9 => (if y1 ≤ v9 then fX9_bound_57 F rec27 y2 y3 y1 μ else rd μ 95 y3 (fun v10 => fX9_bound_57 F rec27 y2 y3 v10 μ)))))
def fX9_bound_27 (F : Nat)  : Nat → Int32 → Int32 → Int32 → Mem → Option (Int32 × Mem)
  | 0 => fun _ _ _ _ => none
  | n + 1 => fX9_bound_27_b F   (fX9_bound_27 F   n)
def fX9_bound (F : Nat) (μ : Mem) : Option (Int32 × Mem) := rd μ 94 0 (fun v1 => (if v1 = 0 then some (0, μ) else rd μ 95 0 (fun v2 => rd μ 96 0 (fun v3 => fX9_bound_27 F F v2 v3 1 μ))))
-- OvenHouseModel.firstRow
def fX9_firstRow_2_b (F : Nat)  (rec2 : Int32 → Mem → Option Mem) (y1 : Int32) (μ : Mem) : Option Mem := rd μ 94 0 (fun v1 => (if v1 ≤ y1 then some μ else wr μ 105 y1 y1 (fun m2 => rec2 (y1 + 1) m2)))
def fX9_firstRow_2 (F : Nat)  : Nat → Int32 → Mem → Option Mem
  | 0 => fun _ _ => none
  | n + 1 => fX9_firstRow_2_b F   (fX9_firstRow_2 F   n)
def fX9_firstRow (F : Nat) (μ : Mem) : Option Mem := fX9_firstRow_2 F F 0 μ
-- OvenHouseModel.nextRow
def fX9_nextRow_107_b (F : Nat)  (rec107 : Int32 → Int32 → Mem → Option (Int32 × Mem)) (y5 : Int32) (y6 : Int32) (μ : Mem) : Option (Int32 × Mem) := (if y6 ≤ y5 then zr 1 μ else rd μ 105 y5 (fun v10 => rd μ 105 y6 (fun v11 => wr μ 105 y5 v11 (fun m12 => wr m12 105 y6 v10 (fun m13 => rec107 (y5 + 1) (y6 + (-1)) m13)))))
def fX9_nextRow_107 (F : Nat)  : Nat → Int32 → Int32 → Mem → Option (Int32 × Mem)
  | 0 => fun _ _ _ => none
  | n + 1 => fX9_nextRow_107_b F   (fX9_nextRow_107 F   n)
def fX9_nextRow_48_b (F : Nat)  (rec48 : Int32 → Int32 → Int32 → Mem → Option (Int32 × Mem)) (y1 : Int32) (y2 : Int32) (y3 : Int32) (μ : Mem) : Option (Int32 × Mem) := rd μ 105 y3 (fun v4 => rd μ 105 y2 (fun v5 => (if v5 ≤ v4 then rd μ 105 y2 (fun v6 => rd μ 105 y3 (fun v7 => wr μ 105 y2 v7 (fun m8 => wr m8 105 y3 v6 (fun m9 => fX9_nextRow_107 F F (y2 + 1) (y1 - 1) m9)))) else rec48 y1 y2 (y3 + (-1)) μ)))
def fX9_nextRow_48 (F : Nat)  : Nat → Int32 → Int32 → Int32 → Mem → Option (Int32 × Mem)
  | 0 => fun _ _ _ _ => none
  | n + 1 => fX9_nextRow_48_b F   (fX9_nextRow_48 F   n)
def fX9_nextRow_38 (F : Nat)  (y1 : Int32) (y2 : Int32) (μ : Mem) : Option (Int32 × Mem) := (if 0 ≤ y2 then fX9_nextRow_48 F F y1 y2 (y1 - 1) μ else zr 0 μ)
def fX9_nextRow_11_b (F : Nat)  (rec11 : Int32 → Int32 → Mem → Option (Int32 × Mem)) (y1 : Int32) (y2 : Int32) (μ : Mem) : Option (Int32 × Mem) := (if y2 < 0 then fX9_nextRow_38 F y1 y2 μ else rd μ 105 y2 (fun v2 => rd μ 105 (y2 + 1) (fun v3 => (if v2 ≤ v3 then fX9_nextRow_38 F y1 y2 μ else rec11 y1 (y2 + (-1)) μ))))
def fX9_nextRow_11 (F : Nat)  : Nat → Int32 → Int32 → Mem → Option (Int32 × Mem)
  | 0 => fun _ _ _ => none
  | n + 1 => fX9_nextRow_11_b F   (fX9_nextRow_11 F   n)
def fX9_nextRow (F : Nat) (μ : Mem) : Option (Int32 × Mem) := rd μ 94 0 (fun v1 => fX9_nextRow_11 F F v1 (v1 - 2) μ)
-- OvenHouseModel.finds
def fX9_finds_12_b (F : Nat) (k1 : Nat) (rec12 : Int32 → Mem → Option Mem) (y2 : Int32) (μ : Mem) : Option Mem := (if (μ 89 12) ≤ y2 then st μ 89 14 1 (fun m3 => st m3 89 15 1 (fun m4 => some m4)) else rd μ k1 y2 (fun v5 => wr μ 100 y2 v5 (fun m6 => rec12 (y2 + 1) m6)))
def fX9_finds_12 (F : Nat) (k1 : Nat) : Nat → Int32 → Mem → Option Mem
  | 0 => fun _ _ => none
  | n + 1 => fX9_finds_12_b F k1  (fX9_finds_12 F k1  n)
def fX9_finds (F : Nat) (k1 : Nat) (μ : Mem) : Option Mem := rd μ 94 0 (fun v1 => st μ 89 12 v1 (fun m2 => fX9_finds_12 F k1 F 0 m2))
-- OvenHouseModel.sorts
def fX9_sorts_48 (F : Nat) (k1 : Nat) (k2 : Nat) (rec2 : Int32 → Mem → Option Mem) (y3 : Int32) (y4 : Int32) (μ : Mem) : Option Mem := wr μ k1 y4 y3 (fun m6 => rec2 (y3 + 1) m6)
def fX9_sorts_13_b (F : Nat) (k1 : Nat) (k2 : Nat) (rec2 : Int32 → Mem → Option Mem) (rec13 : Int32 → Int32 → Mem → Option Mem) (y3 : Int32) (y4 : Int32) (μ : Mem) : Option Mem := (if y4 ≤ 0 then fX9_sorts_48 F k1 k2 rec2 y3 y4 μ else rd μ k1 (y4 - 1) (fun v1 => rd μ k2 v1 (fun v2 => rd μ k2 y3 (fun v3 => (if v2 ≤ v3 then fX9_sorts_48 F k1 k2 rec2 y3 y4 μ else rd μ k1 (y4 - 1) (fun v4 => wr μ k1 y4 v4 (fun m5 => rec13 y3 (y4 + (-1)) m5)))))))
def fX9_sorts_13 (F : Nat) (k1 : Nat) (k2 : Nat) (rec2 : Int32 → Mem → Option Mem) : Nat → Int32 → Int32 → Mem → Option Mem
  | 0 => fun _ _ _ => none
  | n + 1 => fX9_sorts_13_b F k1 k2 rec2 (fX9_sorts_13 F k1 k2 rec2 n)
def fX9_sorts_2_b (F : Nat) (k1 : Nat) (k2 : Nat) (rec2 : Int32 → Mem → Option Mem) (y3 : Int32) (μ : Mem) : Option Mem := (if (μ 89 21) ≤ y3 then some μ else fX9_sorts_13 F k1 k2 rec2 F y3 y3 μ)
def fX9_sorts_2 (F : Nat) (k1 : Nat) (k2 : Nat) : Nat → Int32 → Mem → Option Mem
  | 0 => fun _ _ => none
  | n + 1 => fX9_sorts_2_b F k1 k2  (fX9_sorts_2 F k1 k2  n)
def fX9_sorts (F : Nat) (k1 : Nat) (k2 : Nat) (μ : Mem) : Option Mem := fX9_sorts_2 F k1 k2 F 0 μ
-- OvenHouseModel.between
def fX9_between_56 (F : Nat)  (y1 : Int32) (y2 : Int32) (y3 : Int32) (y5 : Int32) (μ : Mem) : Option (Int32 × Mem) := (if (μ 89 22) = 0 then (if y2 ≤ y1 then some (0, μ) else some ((y3 * (y2 - y1)), μ)) else some (y5, μ))
def fX9_between_6_b (F : Nat)  (rec6 : Int32 → Int32 → Int32 → Int32 → Int32 → Int32 → Mem → Option (Int32 × Mem)) (y1 : Int32) (y2 : Int32) (y3 : Int32) (y4 : Int32) (y5 : Int32) (y6 : Int32) (μ : Mem) : Option (Int32 × Mem) := (if y2 ≤ y6 then fX9_between_56 F y1 y2 y3 y5 μ else (if (μ 89 22) = 0 then fX9_between_56 F y1 y2 y3 y5 μ else rd μ 101 (y6 / 50) (fun v1 => rd μ 102 (y6 / 50) (fun v2 => rec6 y1 y2 y3 y4 (y5 + ((y3 * v1) + (y4 * v2))) (y6 + 1) μ))))
def fX9_between_6 (F : Nat)  : Nat → Int32 → Int32 → Int32 → Int32 → Int32 → Int32 → Mem → Option (Int32 × Mem)
  | 0 => fun _ _ _ _ _ _ _ => none
  | n + 1 => fX9_between_6_b F   (fX9_between_6 F   n)
def fX9_between (F : Nat) (x1 : Int32) (x2 : Int32) (x3 : Int32) (x4 : Int32) (μ : Mem) : Option (Int32 × Mem) := fX9_between_6 F F x1 x2 x3 x4 0 x1 μ
-- OvenHouseModel.costOf
def fX9_costOf (F : Nat) (x1 : Int32) (x2 : Int32) (μ : Mem) : Option (Int32 × Mem) := (if x2 ≤ x1 then cal (fX9_between F x2 x1 0 1 μ) (fun r2 m1 => some (r2, m1)) else cal (fX9_between F x1 x2 1 0 μ) (fun r4 m3 => some (r4, m3)))
-- OvenHouseModel.ringCost
def fX9_ringCost_4_b (F : Nat)  (rec4 : Int32 → Int32 → Mem → Option (Int32 × Mem)) (y1 : Int32) (y2 : Int32) (μ : Mem) : Option (Int32 × Mem) := (if (μ 89 21) ≤ y2 then some (y1, μ) else rd μ 107 y2 (fun v1 => rd μ 110 y2 (fun v2 => rd μ 106 v2 (fun v3 => cal (fX9_costOf F v1 v3 μ) (fun r5 m4 => rec4 (y1 + r5) (y2 + 1) m4)))))
def fX9_ringCost_4 (F : Nat)  : Nat → Int32 → Int32 → Mem → Option (Int32 × Mem)
  | 0 => fun _ _ _ => none
  | n + 1 => fX9_ringCost_4_b F   (fX9_ringCost_4 F   n)
def fX9_ringCost (F : Nat) (μ : Mem) : Option (Int32 × Mem) := fX9_ringCost_4 F F 0 0 μ
-- OvenHouseModel.higher
def fX9_higher (F : Nat) (x1 : Int32) (μ : Mem) : Option (Int32 × Mem) := rd μ 108 x1 (fun v1 => rd μ 107 v1 (fun v2 => rd μ 109 x1 (fun v3 => rd μ 106 v3 (fun v4 => (if v2 ≤ v4 then rd μ 109 x1 (fun v5 => rd μ 106 v5 (fun v6 => some (v6, μ))) else rd μ 108 x1 (fun v7 => rd μ 107 v7 (fun v8 => some (v8, μ))))))))
-- OvenHouseModel.lower
def fX9_lower (F : Nat) (x1 : Int32) (μ : Mem) : Option (Int32 × Mem) := rd μ 108 x1 (fun v1 => rd μ 107 v1 (fun v2 => rd μ 109 x1 (fun v3 => rd μ 106 v3 (fun v4 => (if v4 ≤ v2 then rd μ 109 x1 (fun v5 => rd μ 106 v5 (fun v6 => some (v6, μ))) else rd μ 108 x1 (fun v7 => rd μ 107 v7 (fun v8 => some (v8, μ))))))))
-- OvenHouseModel.exchange
def fX9_exchange (F : Nat) (x1 : Int32) (μ : Mem) : Option Mem := rd μ 108 x1 (fun v1 => rd μ 110 v1 (fun v2 => rd μ 108 x1 (fun v3 => rd μ 108 (x1 + 1) (fun v4 => rd μ 110 v4 (fun v5 => wr μ 110 v3 v5 (fun m6 => rd m6 108 (x1 + 1) (fun v7 => wr m6 110 v7 v2 (fun m8 => some m8))))))))
-- OvenHouseModel.joined
def fX9_joined_140_b (F : Nat)  (rec106 : Int32 → Mem → Option (Int32 × Mem)) (rec140 : Int32 → Int32 → Mem → Option (Int32 × Mem)) (y1 : Int32) (y2 : Int32) (μ : Mem) : Option (Int32 × Mem) := rd μ 111 y2 (fun v28 => (if v28 = (-1) then wr μ 111 y2 y1 (fun m29 => rd m29 110 y2 (fun v30 => rec140 y1 v30 m29)) else rec106 (y1 + 1) μ))
def fX9_joined_140 (F : Nat)  (rec106 : Int32 → Mem → Option (Int32 × Mem)) : Nat → Int32 → Int32 → Mem → Option (Int32 × Mem)
  | 0 => fun _ _ _ => none
  | n + 1 => fX9_joined_140_b F  rec106 (fX9_joined_140 F  rec106 n)
def fX9_joined_380_b (F : Nat)  (rec240 : Int32 → Mem → Option (Int32 × Mem)) (rec380 : Int32 → Int32 → Int32 → Int32 → Mem → Option (Int32 × Mem)) (y1 : Int32) (y3 : Int32) (y4 : Int32) (y5 : Int32) (μ : Mem) : Option (Int32 × Mem) := (if (μ 89 21) ≤ y5 then rec240 (y1 + 1) μ else rd μ 111 y5 (fun v59 => (if v59 = y4 then wr μ 111 y5 y3 (fun m62 => rec380 y1 y3 y4 (y5 + 1) m62) else rd μ 111 y5 (fun v60 => wr μ 111 y5 v60 (fun m61 => rec380 y1 y3 y4 (y5 + 1) m61)))))
def fX9_joined_380 (F : Nat)  (rec240 : Int32 → Mem → Option (Int32 × Mem)) : Nat → Int32 → Int32 → Int32 → Int32 → Mem → Option (Int32 × Mem)
  | 0 => fun _ _ _ _ _ => none
  | n + 1 => fX9_joined_380_b F  rec240 (fX9_joined_380 F  rec240 n)
def fX9_joined_254_b (F : Nat)  (rec240 : Int32 → Mem → Option (Int32 × Mem)) (rec254 : Int32 → Int32 → Int32 → Mem → Option (Int32 × Mem)) (y1 : Int32) (y2 : Int32) (y3 : Int32) (μ : Mem) : Option (Int32 × Mem) := (if (μ 89 21) ≤ (y3 + 1) then wz μ 113 y2 1 (fun m37 => rd m37 108 y2 (fun v38 => rd m37 111 v38 (fun v39 => rd m37 108 (y2 + 1) (fun v40 => rd m37 111 v40 (fun v41 => (if v39 = v41 then rec240 (y1 + 1) m37 else wz m37 114 y2 1 (fun m42 => rd m42 115 2 (fun v43 => wr m42 115 2 (v43 + 1) (fun m44 => rd m44 115 3 (fun v45 => rd m44 112 y2 (fun v46 => wr m44 115 3 (v45 + v46) (fun m47 => fX9_joined_380 F rec240 F y1 v39 v41 0 m47)))))))))))) else rd μ 113 y3 (fun v48 => (if v48 = 0 then (if y2 = (-1) then rec254 y1 y3 (y3 + 1) μ else rd μ 112 y3 (fun v49 => rd μ 112 y2 (fun v50 => (if v50 ≤ v49 then rec254 y1 y2 (y3 + 1) μ else rec254 y1 y3 (y3 + 1) μ)))) else rec254 y1 y2 (y3 + 1) μ)))
def fX9_joined_254 (F : Nat)  (rec240 : Int32 → Mem → Option (Int32 × Mem)) : Nat → Int32 → Int32 → Int32 → Mem → Option (Int32 × Mem)
  | 0 => fun _ _ _ _ => none
  | n + 1 => fX9_joined_254_b F  rec240 (fX9_joined_254 F  rec240 n)
def fX9_joined_489_b (F : Nat)  (rec489 : Int32 → Mem → Option (Int32 × Mem)) (y1 : Int32) (μ : Mem) : Option (Int32 × Mem) := (if (μ 89 21) ≤ (y1 + 1) then cal (fX9_ringCost F μ) (fun r52 m51 => some (r52, m51)) else rd μ 114 y1 (fun v53 => (if v53 = 0 then rec489 (y1 + 1) μ else rd μ 108 y1 (fun v54 => rd μ 107 v54 (fun v55 => rd μ 109 y1 (fun v56 => rd μ 106 v56 (fun v57 => (if v55 ≤ v57 then rec489 (y1 + 1) μ else cav (fX9_exchange F y1 μ) (fun m58 => rec489 (y1 + 1) m58)))))))))
def fX9_joined_489 (F : Nat)  : Nat → Int32 → Mem → Option (Int32 × Mem)
  | 0 => fun _ _ => none
  | n + 1 => fX9_joined_489_b F   (fX9_joined_489 F   n)
def fX9_joined_438_b (F : Nat)  (rec438 : Int32 → Mem → Option (Int32 × Mem)) (y1 : Int32) (μ : Mem) : Option (Int32 × Mem) := (if y1 < 0 then fX9_joined_489 F F 0 μ else rd μ 114 y1 (fun v31 => (if v31 = 0 then rec438 (y1 + (-1)) μ else rd μ 108 y1 (fun v32 => rd μ 107 v32 (fun v33 => rd μ 109 y1 (fun v34 => rd μ 106 v34 (fun v35 => (if v35 < v33 then rec438 (y1 + (-1)) μ else cav (fX9_exchange F y1 μ) (fun m36 => rec438 (y1 + (-1)) m36)))))))))
def fX9_joined_438 (F : Nat)  : Nat → Int32 → Mem → Option (Int32 × Mem)
  | 0 => fun _ _ => none
  | n + 1 => fX9_joined_438_b F   (fX9_joined_438 F   n)
def fX9_joined_240_b (F : Nat)  (rec240 : Int32 → Mem → Option (Int32 × Mem)) (y1 : Int32) (μ : Mem) : Option (Int32 × Mem) := (if (μ 89 21) ≤ (y1 + 1) then fX9_joined_438 F F ((μ 89 21) - 2) μ else fX9_joined_254 F rec240 F y1 (-1) 0 μ)
def fX9_joined_240 (F : Nat)  : Nat → Int32 → Mem → Option (Int32 × Mem)
  | 0 => fun _ _ => none
  | n + 1 => fX9_joined_240_b F   (fX9_joined_240 F   n)
def fX9_joined_185_b (F : Nat)  (rec185 : Int32 → Mem → Option (Int32 × Mem)) (y1 : Int32) (μ : Mem) : Option (Int32 × Mem) := (if (μ 89 21) ≤ (y1 + 1) then fX9_joined_240 F F 0 μ else cal (fX9_higher F y1 μ) (fun r21 m20 => cal (fX9_lower F (y1 + 1) m20) (fun r23 m22 => (if r23 ≤ r21 then wr m22 112 y1 0 (fun m24 => rec185 (y1 + 1) m24) else cal (fX9_between F r21 r23 1 1 m22) (fun r26 m25 => wr m25 112 y1 r26 (fun m27 => rec185 (y1 + 1) m27))))))
def fX9_joined_185 (F : Nat)  : Nat → Int32 → Mem → Option (Int32 × Mem)
  | 0 => fun _ _ => none
  | n + 1 => fX9_joined_185_b F   (fX9_joined_185 F   n)
def fX9_joined_106_b (F : Nat)  (rec106 : Int32 → Mem → Option (Int32 × Mem)) (y1 : Int32) (μ : Mem) : Option (Int32 × Mem) := (if (μ 89 21) ≤ y1 then cal (fX9_ringCost F μ) (fun r14 m13 => wr m13 115 1 r14 (fun m15 => fX9_joined_185 F F 0 m15)) else rd μ 115 0 (fun v16 => rd μ 111 y1 (fun v17 => (if v17 = (-1) then wr μ 115 0 (v16 + 1) (fun m19 => fX9_joined_140 F rec106 F y1 y1 m19) else wr μ 115 0 (v16 + 0) (fun m18 => fX9_joined_140 F rec106 F y1 y1 m18)))))
def fX9_joined_106 (F : Nat)  : Nat → Int32 → Mem → Option (Int32 × Mem)
  | 0 => fun _ _ => none
  | n + 1 => fX9_joined_106_b F   (fX9_joined_106 F   n)
def fX9_joined_26_b (F : Nat)  (rec26 : Int32 → Mem → Option (Int32 × Mem)) (y1 : Int32) (μ : Mem) : Option (Int32 × Mem) := (if (μ 89 21) ≤ y1 then st μ 89 33 1 (fun m3 => wr m3 115 0 0 (fun m4 => wr m4 115 2 0 (fun m5 => wr m5 115 3 0 (fun m6 => fX9_joined_106 F F 0 m6)))) else rd μ 108 y1 (fun v7 => rd μ 109 y1 (fun v8 => wr μ 110 v7 v8 (fun m9 => wr m9 111 y1 (-1) (fun m10 => wz m10 113 y1 0 (fun m11 => wz m11 114 y1 0 (fun m12 => rec26 (y1 + 1) m12)))))))
def fX9_joined_26 (F : Nat)  : Nat → Int32 → Mem → Option (Int32 × Mem)
  | 0 => fun _ _ => none
  | n + 1 => fX9_joined_26_b F   (fX9_joined_26 F   n)
def fX9_joined (F : Nat) (μ : Mem) : Option (Int32 × Mem) := cav (fX9_sorts F 108 107 μ) (fun m1 => cav (fX9_sorts F 109 106 m1) (fun m2 => fX9_joined_26 F F 0 m2))
-- OvenHouseModel.roundFrom
def fX9_roundFrom_4_b (F : Nat)  (rec4 : Int32 → Int32 → Mem → Option Mem) (y2 : Int32) (y3 : Int32) (μ : Mem) : Option Mem := rd μ 94 0 (fun v1 => (if v1 ≤ y3 then cav (fX9_finds F 105 μ) (fun m2 => some m2) else wr μ 105 y3 y2 (fun m3 => rd m3 110 y2 (fun v4 => rec4 v4 (y3 + 1) m3))))
def fX9_roundFrom_4 (F : Nat)  : Nat → Int32 → Int32 → Mem → Option Mem
  | 0 => fun _ _ _ => none
  | n + 1 => fX9_roundFrom_4_b F   (fX9_roundFrom_4 F   n)
def fX9_roundFrom (F : Nat) (x1 : Int32) (μ : Mem) : Option Mem := fX9_roundFrom_4 F F x1 0 μ
-- OvenHouseModel.atOnce
def fX9_atOnce_21_b (F : Nat)  (rec21 : Int32 → Int32 → Mem → Option (Int32 × Mem)) (y1 : Int32) (y2 : Int32) (μ : Mem) : Option (Int32 × Mem) := (if y1 ≤ y2 then wr μ 106 y1 0 (fun m4 => wr m4 107 y1 0 (fun m5 => cal (fX9_joined F m5) (fun r7 m6 => rd m6 110 y1 (fun v8 => cav (fX9_roundFrom F v8 m6) (fun m9 => cal (fX9_allBake F m9) (fun r11 m10 => some ((r11 + r7), m10))))))) else rd μ 95 y2 (fun v12 => wr μ 106 y2 v12 (fun m13 => rd m13 96 y2 (fun v14 => wr m13 107 y2 v14 (fun m15 => rec21 y1 (y2 + 1) m15)))))
def fX9_atOnce_21 (F : Nat)  : Nat → Int32 → Int32 → Mem → Option (Int32 × Mem)
  | 0 => fun _ _ _ => none
  | n + 1 => fX9_atOnce_21_b F   (fX9_atOnce_21 F   n)
def fX9_atOnce (F : Nat) (μ : Mem) : Option (Int32 × Mem) := rd μ 94 0 (fun v1 => st μ 89 21 (v1 + 1) (fun m2 => st m2 89 22 0 (fun m3 => fX9_atOnce_21 F F v1 0 m3)))
-- OvenHouseModel.least
def fX9_least_89_b (F : Nat)  (rec89 : Int32 → Int32 → Int32 → Mem → Option (Int32 × Mem)) (y1 : Int32) (y2 : Int32) (y3 : Int32) (μ : Mem) : Option (Int32 × Mem) := cal (fX9_nextRow F μ) (fun r15 m14 => (if r15 = 0 then some (y3, m14) else cal (fX9_endOf F 105 y1 y2 m14) (fun r17 m16 => (if y3 ≤ r17 then rec89 y1 y2 y3 m16 else cav (fX9_finds F 105 m16) (fun m18 => rec89 y1 y2 r17 m18)))))
def fX9_least_89 (F : Nat)  : Nat → Int32 → Int32 → Int32 → Mem → Option (Int32 × Mem)
  | 0 => fun _ _ _ _ => none
  | n + 1 => fX9_least_89_b F   (fX9_least_89 F   n)
def fX9_least (F : Nat) (x1 : Int32) (x2 : Int32) (μ : Mem) : Option (Int32 × Mem) := cal (fX9_isLaw F x1 x2 μ) (fun r2 m1 => (if r2 = 0 then some ((-2), m1) else (if x1 = 0 then cal (fX9_atOnce F m1) (fun r13 m12 => some (r13, m12)) else (if x1 = 1 then cav (fX9_byRule F 105 m1) (fun m8 => cav (fX9_finds F 105 m8) (fun m9 => cal (fX9_endOf F 105 1 0 m9) (fun r11 m10 => some (r11, m10)))) else rd m1 94 0 (fun v3 => (if v3 ≤ 7 then cav (fX9_firstRow F m1) (fun m4 => cal (fX9_endOf F 105 x1 x2 m4) (fun r6 m5 => cav (fX9_finds F 105 m5) (fun m7 => fX9_least_89 F F x1 x2 r6 m7))) else some ((-4), m1)))))))
-- OvenHouseModel.isOrder
def fX9_isOrder_4_b (F : Nat)  (rec4 : Int32 → Int32 → Mem → Option (Int32 × Mem)) (y1 : Int32) (y2 : Int32) (μ : Mem) : Option (Int32 × Mem) := rd μ 94 0 (fun v1 => (if v1 ≤ y2 then zr y1 μ else (if y1 = 0 then rec4 0 (y2 + 1) μ else rd μ 105 y2 (fun v2 => rd μ 99 y2 (fun v3 => (if v2 = v3 then rec4 1 (y2 + 1) μ else rec4 0 (y2 + 1) μ))))))
def fX9_isOrder_4 (F : Nat)  : Nat → Int32 → Int32 → Mem → Option (Int32 × Mem)
  | 0 => fun _ _ _ => none
  | n + 1 => fX9_isOrder_4_b F   (fX9_isOrder_4 F   n)
def fX9_isOrder (F : Nat) (μ : Mem) : Option (Int32 × Mem) := fX9_isOrder_4 F F 1 0 μ
-- OvenHouseModel.second
def fX9_second_46_b (F : Nat)  (rec46 : Int32 → Int32 → Int32 → Int32 → Mem → Option (Int32 × Mem)) (y1 : Int32) (y2 : Int32) (y3 : Int32) (y4 : Int32) (μ : Mem) : Option (Int32 × Mem) := (if y4 = 0 then some (y3, μ) else cal (fX9_isOrder F μ) (fun r7 m6 => (if r7 = 0 then cal (fX9_endOf F 105 y1 y2 m6) (fun r11 m10 => (if y3 < 0 then cal (fX9_nextRow F m10) (fun r13 m12 => rec46 y1 y2 r11 r13 m12) else (if y3 ≤ r11 then cal (fX9_nextRow F m10) (fun r15 m14 => rec46 y1 y2 y3 r15 m14) else cal (fX9_nextRow F m10) (fun r17 m16 => rec46 y1 y2 r11 r17 m16)))) else cal (fX9_nextRow F m6) (fun r9 m8 => rec46 y1 y2 y3 r9 m8))))
def fX9_second_46 (F : Nat)  : Nat → Int32 → Int32 → Int32 → Int32 → Mem → Option (Int32 × Mem)
  | 0 => fun _ _ _ _ _ => none
  | n + 1 => fX9_second_46_b F   (fX9_second_46 F   n)
def fX9_second (F : Nat) (x1 : Int32) (x2 : Int32) (μ : Mem) : Option (Int32 × Mem) := cal (fX9_isLaw F x1 x2 μ) (fun r2 m1 => (if r2 = 0 then some ((-2), m1) else rd m1 94 0 (fun v3 => (if 2 ≤ v3 then rd m1 94 0 (fun v4 => (if v4 ≤ 7 then cav (fX9_firstRow F m1) (fun m5 => fX9_second_46 F F x1 x2 (-1) 1 m5) else some ((-4), m1))) else some ((-1), m1)))))
-- OvenHouseModel.better
def fX9_better_43_b (F : Nat)  (rec32 : Int32 → Int32 → Int32 → Int32 → Int32 → Mem → Option (Int32 × Mem)) (rec43 : Int32 → Int32 → Int32 → Int32 → Int32 → Int32 → Mem → Option (Int32 × Mem)) (y1 : Int32) (y2 : Int32) (y3 : Int32) (y4 : Int32) (y5 : Int32) (y6 : Int32) (μ : Mem) : Option (Int32 × Mem) := rd μ 94 0 (fun v6 => (if v6 ≤ (y6 + 1) then rec32 y1 y2 y3 y4 y5 μ else rd μ 99 y6 (fun v7 => rd μ 99 (y6 + 1) (fun v8 => wr μ 99 y6 v8 (fun m9 => wr m9 99 (y6 + 1) v7 (fun m10 => cal (fX9_endOf F 99 y1 y2 m10) (fun r12 m11 => (if y4 ≤ r12 then rd m11 99 y6 (fun v13 => wr m11 99 (y6 + 1) v13 (fun m14 => wr m14 99 y6 v7 (fun m15 => rec43 y1 y2 y3 y4 y5 (y6 + 1) m15))) else rec43 y1 y2 (y3 + 1) r12 1 (y6 + 1) m11))))))))
def fX9_better_43 (F : Nat)  (rec32 : Int32 → Int32 → Int32 → Int32 → Int32 → Mem → Option (Int32 × Mem)) : Nat → Int32 → Int32 → Int32 → Int32 → Int32 → Int32 → Mem → Option (Int32 × Mem)
  | 0 => fun _ _ _ _ _ _ _ => none
  | n + 1 => fX9_better_43_b F  rec32 (fX9_better_43 F  rec32 n)
def fX9_better_32_b (F : Nat)  (rec32 : Int32 → Int32 → Int32 → Int32 → Int32 → Mem → Option (Int32 × Mem)) (y1 : Int32) (y2 : Int32) (y3 : Int32) (y4 : Int32) (y5 : Int32) (μ : Mem) : Option (Int32 × Mem) := (if y5 = 0 then some (y3, μ) else fX9_better_43 F rec32 F y1 y2 y3 y4 0 0 μ)
def fX9_better_32 (F : Nat)  : Nat → Int32 → Int32 → Int32 → Int32 → Int32 → Mem → Option (Int32 × Mem)
  | 0 => fun _ _ _ _ _ _ => none
  | n + 1 => fX9_better_32_b F   (fX9_better_32 F   n)
def fX9_better (F : Nat) (x1 : Int32) (x2 : Int32) (μ : Mem) : Option (Int32 × Mem) := cal (fX9_isLaw F x1 x2 μ) (fun r2 m1 => (if r2 = 0 then some ((-2), m1) else cav (fX9_keep F m1) (fun m3 => cal (fX9_endOf F 99 x1 x2 m3) (fun r5 m4 => fX9_better_32 F F x1 x2 0 r5 1 m4))))
-- OvenHouseModel.best
def fX9_best (F : Nat) (x1 : Int32) (μ : Mem) : Option (Int32 × Mem) := (if (μ 89 14) = 0 then some ((-1), μ) else cal (fX9_in F x1.toInt64 0 (((μ 89 12) - 1).toInt64) μ) (fun r2 m1 => (if r2 = 0 then some ((-1), m1) else rd m1 100 x1 (fun v3 => some (v3, m1)))))
-- OvenHouseModel.rings
def fX9_rings (F : Nat) (x1 : Int32) (μ : Mem) : Option (Int32 × Mem) := (if (μ 89 33) = 0 then some ((-2), μ) else cal (fX9_in F x1.toInt64 0 3 μ) (fun r2 m1 => (if r2 = 0 then some ((-2), m1) else rd m1 115 x1 (fun v3 => some (v3, m1)))))
-- OvenHouseModel.roundCost
def fX9_roundCost_43 (F : Nat) (k1 : Nat) (rec17 : Int32 → Int32 → Int32 → Mem → Option (Int32 × Mem)) (y2 : Int32) (y3 : Int32) (y4 : Int32) (z0 : Int32) (μ : Mem) : Option (Int32 × Mem) := rd μ k1 y4 (fun v5 => rd μ 98 v5 (fun v6 => rd μ 97 z0 (fun v7 => cal (fX9_costOf F v6 v7 μ) (fun r9 m8 => rec17 y2 (y3 + r9) (y4 + 1) m8))))
def fX9_roundCost_17_b (F : Nat) (k1 : Nat) (rec17 : Int32 → Int32 → Int32 → Mem → Option (Int32 × Mem)) (y2 : Int32) (y3 : Int32) (y4 : Int32) (μ : Mem) : Option (Int32 × Mem) := (if y2 ≤ y4 then some (y3, μ) else (if (y4 + 1) = y2 then rd μ k1 0 (fun v4 => fX9_roundCost_43 F k1 rec17 y2 y3 y4 v4 μ) else rd μ k1 (y4 + 1) (fun v3 => fX9_roundCost_43 F k1 rec17 y2 y3 y4 v3 μ)))
def fX9_roundCost_17 (F : Nat) (k1 : Nat) : Nat → Int32 → Int32 → Int32 → Mem → Option (Int32 × Mem)
  | 0 => fun _ _ _ _ => none
  | n + 1 => fX9_roundCost_17_b F k1  (fX9_roundCost_17 F k1  n)
def fX9_roundCost (F : Nat) (k1 : Nat) (μ : Mem) : Option (Int32 × Mem) := rd μ 94 0 (fun v1 => st μ 89 22 1 (fun m2 => fX9_roundCost_17 F k1 F v1 0 0 m2))
-- OvenHouseModel.cost
def fX9_cost (F : Nat) (μ : Mem) : Option (Int32 × Mem) := cal (fX9_roundCost F 99 μ) (fun r2 m1 => some (r2, m1))
-- OvenHouseModel.round
def fX9_round_76_b (F : Nat)  (rec76 : Int32 → Int32 → Mem → Option (Int32 × Mem)) (y1 : Int32) (y3 : Int32) (μ : Mem) : Option (Int32 × Mem) := (if y1 ≤ y3 then cal (fX9_joined F μ) (fun r7 m6 => cav (fX9_roundFrom F 0 m6) (fun m8 => some (r7, m8))) else rd μ 97 y3 (fun v9 => wr μ 106 y3 v9 (fun m10 => rd m10 98 y3 (fun v11 => wr m10 107 y3 v11 (fun m12 => rec76 y1 (y3 + 1) m12)))))
def fX9_round_76 (F : Nat)  : Nat → Int32 → Int32 → Mem → Option (Int32 × Mem)
  | 0 => fun _ _ _ => none
  | n + 1 => fX9_round_76_b F   (fX9_round_76 F   n)
def fX9_round_19_b (F : Nat)  (rec19 : Int32 → Int32 → Int32 → Mem → Option (Int32 × Mem)) (y1 : Int32) (y2 : Int32) (y3 : Int32) (μ : Mem) : Option (Int32 × Mem) := (if 8 ≤ y3 then (if y2 = 0 then some ((-5), μ) else st μ 89 21 y1 (fun m2 => st m2 89 22 1 (fun m3 => fX9_round_76 F F y1 0 m3))) else (if y2 = 0 then rec19 y1 0 (y3 + 1) μ else rd μ 101 y3 (fun v4 => rd μ 102 y3 (fun v5 => (if (v4 + v5) < 0 then rec19 y1 0 (y3 + 1) μ else rec19 y1 1 (y3 + 1) μ)))))
def fX9_round_19 (F : Nat)  : Nat → Int32 → Int32 → Int32 → Mem → Option (Int32 × Mem)
  | 0 => fun _ _ _ _ => none
  | n + 1 => fX9_round_19_b F   (fX9_round_19 F   n)
def fX9_round (F : Nat) (μ : Mem) : Option (Int32 × Mem) := rd μ 94 0 (fun v1 => (if v1 ≤ 0 then fX9_round_19 F F v1 0 0 μ else fX9_round_19 F F v1 1 0 μ))
-- OvenHouseModel.through
def fX9_through_39_b (F : Nat)  (rec39 : Int32 → Mem → Option (Int32 × Mem)) (y1 : Int32) (μ : Mem) : Option (Int32 × Mem) := cal (fX9_nextRow F μ) (fun r7 m6 => (if r7 = 0 then some (y1, m6) else rd m6 105 0 (fun v8 => (if v8 = 0 then cal (fX9_roundCost F 105 m6) (fun r10 m9 => (if y1 ≤ r10 then rec39 y1 m9 else rec39 r10 m9)) else some (y1, m6)))))
def fX9_through_39 (F : Nat)  : Nat → Int32 → Mem → Option (Int32 × Mem)
  | 0 => fun _ _ => none
  | n + 1 => fX9_through_39_b F   (fX9_through_39 F   n)
def fX9_through (F : Nat) (μ : Mem) : Option (Int32 × Mem) := rd μ 94 0 (fun v1 => (if v1 = 0 then some ((-5), μ) else rd μ 94 0 (fun v2 => (if v2 ≤ 8 then cav (fX9_firstRow F μ) (fun m3 => cal (fX9_roundCost F 105 m3) (fun r5 m4 => fX9_through_39 F F r5 m4)) else some ((-4), μ)))))
-- OvenHouseModel.batches
def fX9_batches_70 (F : Nat)  (rec17 : Int32 → Int32 → Mem → Option (Int32 × Mem)) (y1 : Int32) (y2 : Int32) (y3 : Int32) (μ : Mem) : Option (Int32 × Mem) := rd μ 96 y2 (fun v10 => wr μ 116 y3 v10 (fun m11 => rec17 y1 (y2 + 1) m11))
def fX9_batches_29_b (F : Nat)  (rec17 : Int32 → Int32 → Mem → Option (Int32 × Mem)) (rec29 : Int32 → Int32 → Int32 → Mem → Option (Int32 × Mem)) (y1 : Int32) (y2 : Int32) (y3 : Int32) (μ : Mem) : Option (Int32 × Mem) := (if y3 ≤ 0 then fX9_batches_70 F rec17 y1 y2 y3 μ else rd μ 116 (y3 - 1) (fun v6 => rd μ 96 y2 (fun v7 => (if v7 ≤ v6 then fX9_batches_70 F rec17 y1 y2 y3 μ else rd μ 116 (y3 - 1) (fun v8 => wr μ 116 y3 v8 (fun m9 => rec29 y1 y2 (y3 + (-1)) m9))))))
def fX9_batches_29 (F : Nat)  (rec17 : Int32 → Int32 → Mem → Option (Int32 × Mem)) : Nat → Int32 → Int32 → Int32 → Mem → Option (Int32 × Mem)
  | 0 => fun _ _ _ _ => none
  | n + 1 => fX9_batches_29_b F  rec17 (fX9_batches_29 F  rec17 n)
def fX9_batches_92_b (F : Nat)  (rec92 : Int32 → Int32 → Int32 → Mem → Option (Int32 × Mem)) (y1 : Int32) (y2 : Int32) (y3 : Int32) (μ : Mem) : Option (Int32 × Mem) := rd μ 94 0 (fun v4 => (if v4 ≤ y3 then some (y2, μ) else rd μ 116 y3 (fun v5 => rec92 y1 (y2 + v5) (y3 + y1) μ)))
def fX9_batches_92 (F : Nat)  : Nat → Int32 → Int32 → Int32 → Mem → Option (Int32 × Mem)
  | 0 => fun _ _ _ _ => none
  | n + 1 => fX9_batches_92_b F   (fX9_batches_92 F   n)
def fX9_batches_17_b (F : Nat)  (rec17 : Int32 → Int32 → Mem → Option (Int32 × Mem)) (y1 : Int32) (y2 : Int32) (μ : Mem) : Option (Int32 × Mem) := rd μ 94 0 (fun v3 => (if v3 ≤ y2 then fX9_batches_92 F F y1 0 0 μ else fX9_batches_29 F rec17 F y1 y2 y2 μ))
def fX9_batches_17 (F : Nat)  : Nat → Int32 → Int32 → Mem → Option (Int32 × Mem)
  | 0 => fun _ _ _ => none
  | n + 1 => fX9_batches_17_b F   (fX9_batches_17 F   n)
def fX9_batches (F : Nat) (x1 : Int32) (μ : Mem) : Option (Int32 × Mem) := cal (fX9_in F x1.toInt64 1 40 μ) (fun r2 m1 => (if r2 = 0 then some ((-2), m1) else fX9_batches_17 F F x1 0 m1))
-- OvenHouseModel.count
def fX9_count (F : Nat) (x1 : Int32) (μ : Mem) : Option (Int32 × Mem) := (if x1 = 0 then rd μ 94 0 (fun v1 => some (v1, μ)) else (if x1 = 1 then cal (fX9_allMix F μ) (fun r3 m2 => some (r3, m2)) else (if x1 = 2 then cal (fX9_allBake F μ) (fun r5 m4 => some (r5, m4)) else (if x1 = 3 then (if (μ 89 14) = 0 then some (0, μ) else (if (μ 89 15) = 0 then some (0, μ) else some (1, μ))) else (if x1 = 4 then some ((μ 89 11), μ) else (if x1 = 5 then some ((μ 89 0), μ) else some ((-2), μ)))))))
-- OvenHouseModel.digest
def fX9_digest_19_b (F : Nat)  (rec6 : Int64 → Int32 → Mem → Option (Int64 × Mem)) (rec19 : Int64 → Int32 → Int32 → Mem → Option (Int64 × Mem)) (y1 : Int64) (y3 : Int32) (y4 : Int32) (μ : Mem) : Option (Int64 × Mem) := (if 6 ≤ y4 then rec6 y1 (y3 + 1) μ else cal (fX9_of F y3 y4 μ) (fun r5 m4 => rec19 ((31 * y1) + r5.toInt64) y3 (y4 + 1) m4))
def fX9_digest_19 (F : Nat)  (rec6 : Int64 → Int32 → Mem → Option (Int64 × Mem)) : Nat → Int64 → Int32 → Int32 → Mem → Option (Int64 × Mem)
  | 0 => fun _ _ _ _ => none
  | n + 1 => fX9_digest_19_b F  rec6 (fX9_digest_19 F  rec6 n)
def fX9_digest_87_b (F : Nat)  (rec87 : Int64 → Int32 → Mem → Option (Int64 × Mem)) (y1 : Int64) (y3 : Int32) (μ : Mem) : Option (Int64 × Mem) := (if 8 ≤ y3 then some (y1, μ) else rd μ 101 y3 (fun v6 => rd μ 102 y3 (fun v7 => rec87 ((31 * ((31 * y1) + v6.toInt64)) + v7.toInt64) (y3 + 1) μ)))
def fX9_digest_87 (F : Nat)  : Nat → Int64 → Int32 → Mem → Option (Int64 × Mem)
  | 0 => fun _ _ _ => none
  | n + 1 => fX9_digest_87_b F   (fX9_digest_87 F   n)
def fX9_digest_55_b (F : Nat)  (rec55 : Int64 → Int32 → Mem → Option (Int64 × Mem)) (y1 : Int64) (y3 : Int32) (μ : Mem) : Option (Int64 × Mem) := rd μ 94 0 (fun v2 => (if v2 ≤ y3 then fX9_digest_87 F F y1 0 μ else rd μ 99 y3 (fun v3 => rec55 ((31 * y1) + v3.toInt64) (y3 + 1) μ)))
def fX9_digest_55 (F : Nat)  : Nat → Int64 → Int32 → Mem → Option (Int64 × Mem)
  | 0 => fun _ _ _ => none
  | n + 1 => fX9_digest_55_b F   (fX9_digest_55 F   n)
def fX9_digest_6_b (F : Nat)  (rec6 : Int64 → Int32 → Mem → Option (Int64 × Mem)) (y1 : Int64) (y3 : Int32) (μ : Mem) : Option (Int64 × Mem) := rd μ 94 0 (fun v1 => (if v1 ≤ y3 then fX9_digest_55 F F y1 0 μ else fX9_digest_19 F rec6 F y1 y3 0 μ))
def fX9_digest_6 (F : Nat)  : Nat → Int64 → Int32 → Mem → Option (Int64 × Mem)
  | 0 => fun _ _ _ => none
  | n + 1 => fX9_digest_6_b F   (fX9_digest_6 F   n)
def fX9_digest (F : Nat) (μ : Mem) : Option (Int64 × Mem) := fX9_digest_6 F F 17 0 μ
/-! the law's loop -/
def rs {α : Type} (xs : Nat → Int32) (L : Nat) (i : Int32) (f : Int32 → Option α) : Option α := if i < 0 ∨ L ≤ i.toNatClampNeg then none else f (xs i.toNatClampNeg)
def fL_law_b (F : Nat) (xs : Nat → Int32) (L : Nat) (rec18 : Int32 → Mem → Option Unit) (y3 : Int32) (μ : Mem) : Option Unit := (if ((Int32.ofNat L) - 6) < y3 then some () else rs xs L y3 (fun v1 => (if (v1 &&& 31) = 0 then rs xs L (y3 + 1) (fun v2 => rs xs L (y3 + 2) (fun v3 => rs xs L (y3 + 3) (fun v4 => cal (fX8_sheet F v2 v3 v4 μ) (fun r6 m5 => rs xs L (y3 + 1) (fun v7 => rs xs L (y3 + 2) (fun v8 => rs xs L (y3 + 3) (fun v9 => cal (fX9_sheet F v7 v8 v9 m5) (fun r11 m10 => rec18 (y3 + 6) m10)))))))) else (if (v1 &&& 31) = 1 then rs xs L (y3 + 1) (fun v12 => cal (fX8_lose F v12 μ) (fun r14 m13 => rs xs L (y3 + 1) (fun v15 => cal (fX9_lose F v15 m13) (fun r17 m16 => rec18 (y3 + 6) m16)))) else (if (v1 &&& 31) = 2 then rs xs L (y3 + 1) (fun v18 => rs xs L (y3 + 2) (fun v19 => rs xs L (y3 + 3) (fun v20 => rs xs L (y3 + 4) (fun v21 => cal (fX8_put F v18 v19 v20 v21 μ) (fun r23 m22 => rs xs L (y3 + 1) (fun v24 => rs xs L (y3 + 2) (fun v25 => rs xs L (y3 + 3) (fun v26 => rs xs L (y3 + 4) (fun v27 => cal (fX9_put F v24 v25 v26 v27 m22) (fun r29 m28 => rec18 (y3 + 6) m28)))))))))) else (if (v1 &&& 31) = 3 then rs xs L (y3 + 1) (fun v30 => rs xs L (y3 + 2) (fun v31 => rs xs L (y3 + 3) (fun v32 => cal (fX8_get F v30 v31 v32 μ) (fun r34 m33 => rs xs L (y3 + 1) (fun v35 => rs xs L (y3 + 2) (fun v36 => rs xs L (y3 + 3) (fun v37 => cal (fX9_get F v35 v36 v37 m33) (fun r39 m38 => rec18 (y3 + 6) m38)))))))) else (if (v1 &&& 31) = 4 then rs xs L (y3 + 1) (fun v40 => rs xs L (y3 + 2) (fun v41 => rs xs L (y3 + 3) (fun v42 => rs xs L (y3 + 4) (fun v43 => rs xs L (y3 + 5) (fun v44 => cal (fX8_copy F v40 v41 v42 v43 v44 μ) (fun r46 m45 => rs xs L (y3 + 1) (fun v47 => rs xs L (y3 + 2) (fun v48 => rs xs L (y3 + 3) (fun v49 => rs xs L (y3 + 4) (fun v50 => rs xs L (y3 + 5) (fun v51 => cal (fX9_copy F v47 v48 v49 v50 v51 m45) (fun r53 m52 => rec18 (y3 + 6) m52)))))))))))) else (if (v1 &&& 31) = 5 then rs xs L (y3 + 1) (fun v54 => rs xs L (y3 + 2) (fun v55 => rs xs L (y3 + 3) (fun v56 => cal (fX8_take F v54 v55 v56 μ) (fun r58 m57 => rs xs L (y3 + 1) (fun v59 => rs xs L (y3 + 2) (fun v60 => rs xs L (y3 + 3) (fun v61 => cal (fX9_take F v59 v60 v61 m57) (fun r63 m62 => rec18 (y3 + 6) m62)))))))) else (if (v1 &&& 31) = 6 then rs xs L (y3 + 1) (fun v64 => rs xs L (y3 + 2) (fun v65 => cal (fX8_loaf F v64 v65 μ) (fun r67 m66 => rs xs L (y3 + 1) (fun v68 => rs xs L (y3 + 2) (fun v69 => cal (fX9_loaf F v68 v69 m66) (fun r71 m70 => rec18 (y3 + 6) m70)))))) else (if (v1 &&& 31) = 7 then rs xs L (y3 + 1) (fun v72 => rs xs L (y3 + 2) (fun v73 => cal (fX8_of F v72 v73 μ) (fun r75 m74 => rs xs L (y3 + 1) (fun v76 => rs xs L (y3 + 2) (fun v77 => cal (fX9_of F v76 v77 m74) (fun r79 m78 => rec18 (y3 + 6) m78)))))) else (if (v1 &&& 31) = 8 then rs xs L (y3 + 1) (fun v80 => rs xs L (y3 + 2) (fun v81 => rs xs L (y3 + 3) (fun v82 => cal (fX8_heat F v80 v81 v82 μ) (fun r84 m83 => rs xs L (y3 + 1) (fun v85 => rs xs L (y3 + 2) (fun v86 => rs xs L (y3 + 3) (fun v87 => cal (fX9_heat F v85 v86 v87 m83) (fun r89 m88 => rec18 (y3 + 6) m88)))))))) else (if (v1 &&& 31) = 9 then rs xs L (y3 + 1) (fun v90 => rs xs L (y3 + 2) (fun v91 => rs xs L (y3 + 3) (fun v92 => cal (fX8_price F v90 v91 v92 μ) (fun r94 m93 => rs xs L (y3 + 1) (fun v95 => rs xs L (y3 + 2) (fun v96 => rs xs L (y3 + 3) (fun v97 => cal (fX9_price F v95 v96 v97 m93) (fun r99 m98 => rec18 (y3 + 6) m98)))))))) else (if (v1 &&& 31) = 10 then rs xs L (y3 + 1) (fun v100 => cal (fX8_at F v100 μ) (fun r102 m101 => rs xs L (y3 + 1) (fun v103 => cal (fX9_at F v103 m101) (fun r105 m104 => rec18 (y3 + 6) m104)))) else (if (v1 &&& 31) = 11 then rs xs L (y3 + 1) (fun v106 => rs xs L (y3 + 2) (fun v107 => cal (fX8_swap F v106 v107 μ) (fun r109 m108 => rs xs L (y3 + 1) (fun v110 => rs xs L (y3 + 2) (fun v111 => cal (fX9_swap F v110 v111 m108) (fun r113 m112 => rec18 (y3 + 6) m112)))))) else (if (v1 &&& 31) = 12 then cal (fX8_rule F μ) (fun r115 m114 => cal (fX9_rule F m114) (fun r117 m116 => rec18 (y3 + 6) m116)) else (if (v1 &&& 31) = 13 then cal (fX8_use F μ) (fun r119 m118 => cal (fX9_use F m118) (fun r121 m120 => rec18 (y3 + 6) m120)) else (if (v1 &&& 31) = 14 then cal (fX8_turn F μ) (fun r123 m122 => cal (fX9_turn F m122) (fun r125 m124 => rec18 (y3 + 6) m124)) else (if (v1 &&& 31) = 15 then cal (fX8_undo F μ) (fun r127 m126 => cal (fX9_undo F m126) (fun r129 m128 => rec18 (y3 + 6) m128)) else (if (v1 &&& 31) = 16 then rs xs L (y3 + 1) (fun v130 => rs xs L (y3 + 2) (fun v131 => cal (fX8_day F v130 v131 μ) (fun r133 m132 => rs xs L (y3 + 1) (fun v134 => rs xs L (y3 + 2) (fun v135 => cal (fX9_day F v134 v135 m132) (fun r137 m136 => rec18 (y3 + 6) m136)))))) else (if (v1 &&& 31) = 17 then rs xs L (y3 + 1) (fun v138 => rs xs L (y3 + 2) (fun v139 => rs xs L (y3 + 3) (fun v140 => rs xs L (y3 + 4) (fun v141 => cal (fX8_moment F v138 v139 v140 v141 μ) (fun r143 m142 => rs xs L (y3 + 1) (fun v144 => rs xs L (y3 + 2) (fun v145 => rs xs L (y3 + 3) (fun v146 => rs xs L (y3 + 4) (fun v147 => cal (fX9_moment F v144 v145 v146 v147 m142) (fun r149 m148 => rec18 (y3 + 6) m148)))))))))) else (if (v1 &&& 31) = 18 then rs xs L (y3 + 1) (fun v150 => rs xs L (y3 + 2) (fun v151 => cal (fX8_idle F v150 v151 μ) (fun r153 m152 => rs xs L (y3 + 1) (fun v154 => rs xs L (y3 + 2) (fun v155 => cal (fX9_idle F v154 v155 m152) (fun r157 m156 => rec18 (y3 + 6) m156)))))) else (if (v1 &&& 31) = 19 then cal (fX8_bound F μ) (fun r159 m158 => cal (fX9_bound F m158) (fun r161 m160 => rec18 (y3 + 6) m160)) else (if (v1 &&& 31) = 20 then rs xs L (y3 + 1) (fun v162 => rs xs L (y3 + 2) (fun v163 => cal (fX8_least F v162 v163 μ) (fun r165 m164 => rs xs L (y3 + 1) (fun v166 => rs xs L (y3 + 2) (fun v167 => cal (fX9_least F v166 v167 m164) (fun r169 m168 => rec18 (y3 + 6) m168)))))) else (if (v1 &&& 31) = 21 then rs xs L (y3 + 1) (fun v170 => rs xs L (y3 + 2) (fun v171 => cal (fX8_second F v170 v171 μ) (fun r173 m172 => rs xs L (y3 + 1) (fun v174 => rs xs L (y3 + 2) (fun v175 => cal (fX9_second F v174 v175 m172) (fun r177 m176 => rec18 (y3 + 6) m176)))))) else (if (v1 &&& 31) = 22 then rs xs L (y3 + 1) (fun v178 => rs xs L (y3 + 2) (fun v179 => cal (fX8_better F v178 v179 μ) (fun r181 m180 => rs xs L (y3 + 1) (fun v182 => rs xs L (y3 + 2) (fun v183 => cal (fX9_better F v182 v183 m180) (fun r185 m184 => rec18 (y3 + 6) m184)))))) else (if (v1 &&& 31) = 23 then rs xs L (y3 + 1) (fun v186 => cal (fX8_best F v186 μ) (fun r188 m187 => rs xs L (y3 + 1) (fun v189 => cal (fX9_best F v189 m187) (fun r191 m190 => rec18 (y3 + 6) m190)))) else (if (v1 &&& 31) = 24 then rs xs L (y3 + 1) (fun v192 => cal (fX8_rings F v192 μ) (fun r194 m193 => rs xs L (y3 + 1) (fun v195 => cal (fX9_rings F v195 m193) (fun r197 m196 => rec18 (y3 + 6) m196)))) else (if (v1 &&& 31) = 25 then cal (fX8_cost F μ) (fun r199 m198 => cal (fX9_cost F m198) (fun r201 m200 => rec18 (y3 + 6) m200)) else (if (v1 &&& 31) = 26 then cal (fX8_round F μ) (fun r203 m202 => cal (fX9_round F m202) (fun r205 m204 => rec18 (y3 + 6) m204)) else (if (v1 &&& 31) = 27 then cal (fX8_through F μ) (fun r207 m206 => cal (fX9_through F m206) (fun r209 m208 => rec18 (y3 + 6) m208)) else (if (v1 &&& 31) = 28 then rs xs L (y3 + 1) (fun v210 => cal (fX8_batches F v210 μ) (fun r212 m211 => rs xs L (y3 + 1) (fun v213 => cal (fX9_batches F v213 m211) (fun r215 m214 => rec18 (y3 + 6) m214)))) else (if (v1 &&& 31) = 29 then rs xs L (y3 + 1) (fun v216 => cal (fX8_count F v216 μ) (fun r218 m217 => rs xs L (y3 + 1) (fun v219 => cal (fX9_count F v219 m217) (fun r221 m220 => rec18 (y3 + 6) m220)))) else (if (v1 &&& 31) = 30 then cal (fX8_digest F μ) (fun r223 m222 => cal (fX9_digest F m222) (fun r225 m224 => (if r223 = r225 then rec18 (y3 + 6) m224 else none))) else rec18 (y3 + 6) μ)))))))))))))))))))))))))))))))))
def fL_law (F : Nat) (xs : Nat → Int32) (L : Nat) : Nat → Int32 → Mem → Option Unit
  | 0 => fun _ _ => none
  | n + 1 => fL_law_b F xs L (fL_law F xs L n)
