def wp_law_L18 (L : Nat) (ss : Nat → Int32) : Nat → Int32 → ST → ST → Prop
  | 0, _, _, _ => False
  | n + 1, x3, σ, τ =>
  ((((Int32.ofNat L) - 6) < x3 → True) ∧
  (¬ ((Int32.ofNat L) - 6) < x3 → (vp_in x3 L ∧ ((((ss (Int32.toNatClampNeg x3)) &&& 31) = 0 → (wp_X4_clear σ (fun σ2 =>
  (wp_X5_clear τ (fun τ3 =>
  wp_law_L18 L ss n (x3 + 6) σ2 τ3))))) ∧
  (¬ ((ss (Int32.toNatClampNeg x3)) &&& 31) = 0 → ((((ss (Int32.toNatClampNeg x3)) &&& 31) = 1 → (vp_in (x3 + 1) L ∧ (vp_in (x3 + 2) L ∧ (wp_X4_thing (ss (Int32.toNatClampNeg (x3 + 1))) (ss (Int32.toNatClampNeg (x3 + 2))) σ (fun r7 σ6 =>
  (wp_X5_thing (ss (Int32.toNatClampNeg (x3 + 1))) (ss (Int32.toNatClampNeg (x3 + 2))) τ (fun r9 τ8 =>
  ((r7 = r9 → wp_law_L18 L ss n (x3 + 6) σ6 τ8) ∧
  (¬ r7 = r9 → False))))))))) ∧
  (¬ ((ss (Int32.toNatClampNeg x3)) &&& 31) = 1 → ((((ss (Int32.toNatClampNeg x3)) &&& 31) = 2 → (vp_in (x3 + 1) L ∧ (vp_in (x3 + 2) L ∧ (vp_in (x3 + 3) L ∧ (vp_in (x3 + 4) L ∧ (vp_in (x3 + 5) L ∧ (wp_X4_table (ss (Int32.toNatClampNeg (x3 + 1))) (((Int32.toInt64 (ss (Int32.toNatClampNeg (x3 + 2)))) <<< (Int32.toInt64 32 &&& 63)) ||| ((Int32.toInt64 (ss (Int32.toNatClampNeg (x3 + 3)))) &&& 4294967295)) (((Int32.toInt64 (ss (Int32.toNatClampNeg (x3 + 4)))) <<< (Int32.toInt64 32 &&& 63)) ||| ((Int32.toInt64 (ss (Int32.toNatClampNeg (x3 + 5)))) &&& 4294967295)) σ (fun r16 σ15 =>
  (wp_X5_table (ss (Int32.toNatClampNeg (x3 + 1))) (((Int32.toInt64 (ss (Int32.toNatClampNeg (x3 + 2)))) <<< (Int32.toInt64 32 &&& 63)) ||| ((Int32.toInt64 (ss (Int32.toNatClampNeg (x3 + 3)))) &&& 4294967295)) (((Int32.toInt64 (ss (Int32.toNatClampNeg (x3 + 4)))) <<< (Int32.toInt64 32 &&& 63)) ||| ((Int32.toInt64 (ss (Int32.toNatClampNeg (x3 + 5)))) &&& 4294967295)) τ (fun r18 τ17 =>
  ((r16 = r18 → wp_law_L18 L ss n (x3 + 6) σ15 τ17) ∧
  (¬ r16 = r18 → False)))))))))))) ∧
  (¬ ((ss (Int32.toNatClampNeg x3)) &&& 31) = 2 → ((((ss (Int32.toNatClampNeg x3)) &&& 31) = 3 → (vp_in (x3 + 1) L ∧ (vp_in (x3 + 2) L ∧ (vp_in (x3 + 3) L ∧ (wp_X4_wall (ss (Int32.toNatClampNeg (x3 + 1))) (ss (Int32.toNatClampNeg (x3 + 2))) (ss (Int32.toNatClampNeg (x3 + 3))) σ (fun r23 σ22 =>
  (wp_X5_wall (ss (Int32.toNatClampNeg (x3 + 1))) (ss (Int32.toNatClampNeg (x3 + 2))) (ss (Int32.toNatClampNeg (x3 + 3))) τ (fun r25 τ24 =>
  ((r23 = r25 → wp_law_L18 L ss n (x3 + 6) σ22 τ24) ∧
  (¬ r23 = r25 → False)))))))))) ∧
  (¬ ((ss (Int32.toNatClampNeg x3)) &&& 31) = 3 → ((((ss (Int32.toNatClampNeg x3)) &&& 31) = 4 → (vp_in (x3 + 1) L ∧ (vp_in (x3 + 2) L ∧ (vp_in (x3 + 3) L ∧ (wp_X4_set (ss (Int32.toNatClampNeg (x3 + 1))) (ss (Int32.toNatClampNeg (x3 + 2))) (ss (Int32.toNatClampNeg (x3 + 3))) σ (fun r30 σ29 =>
  (wp_X5_set (ss (Int32.toNatClampNeg (x3 + 1))) (ss (Int32.toNatClampNeg (x3 + 2))) (ss (Int32.toNatClampNeg (x3 + 3))) τ (fun r32 τ31 =>
  ((r30 = r32 → wp_law_L18 L ss n (x3 + 6) σ29 τ31) ∧
  (¬ r30 = r32 → False)))))))))) ∧
  (¬ ((ss (Int32.toNatClampNeg x3)) &&& 31) = 4 → ((((ss (Int32.toNatClampNeg x3)) &&& 31) = 5 → (vp_in (x3 + 1) L ∧ (vp_in (x3 + 2) L ∧ (vp_in (x3 + 3) L ∧ (wp_X4_price (ss (Int32.toNatClampNeg (x3 + 1))) (ss (Int32.toNatClampNeg (x3 + 2))) (ss (Int32.toNatClampNeg (x3 + 3))) σ (fun r37 σ36 =>
  (wp_X5_price (ss (Int32.toNatClampNeg (x3 + 1))) (ss (Int32.toNatClampNeg (x3 + 2))) (ss (Int32.toNatClampNeg (x3 + 3))) τ (fun r39 τ38 =>
  ((r37 = r39 → wp_law_L18 L ss n (x3 + 6) σ36 τ38) ∧
  (¬ r37 = r39 → False)))))))))) ∧
  (¬ ((ss (Int32.toNatClampNeg x3)) &&& 31) = 5 → ((((ss (Int32.toNatClampNeg x3)) &&& 31) = 6 → (vp_in (x3 + 1) L ∧ (wp_X4_look (ss (Int32.toNatClampNeg (x3 + 1))) σ (fun r42 σ41 =>
  (wp_X5_look (ss (Int32.toNatClampNeg (x3 + 1))) τ (fun r44 τ43 =>
  ((r42 = r44 → wp_law_L18 L ss n (x3 + 6) σ41 τ43) ∧
  (¬ r42 = r44 → False)))))))) ∧
  (¬ ((ss (Int32.toNatClampNeg x3)) &&& 31) = 6 → ((((ss (Int32.toNatClampNeg x3)) &&& 31) = 7 → (vp_in (x3 + 1) L ∧ (vp_in (x3 + 2) L ∧ (wp_X4_of (ss (Int32.toNatClampNeg (x3 + 1))) (ss (Int32.toNatClampNeg (x3 + 2))) σ (fun r48 σ47 =>
  (wp_X5_of (ss (Int32.toNatClampNeg (x3 + 1))) (ss (Int32.toNatClampNeg (x3 + 2))) τ (fun r50 τ49 =>
  ((r48 = r50 → wp_law_L18 L ss n (x3 + 6) σ47 τ49) ∧
  (¬ r48 = r50 → False))))))))) ∧
  (¬ ((ss (Int32.toNatClampNeg x3)) &&& 31) = 7 → ((((ss (Int32.toNatClampNeg x3)) &&& 31) = 8 → (vp_in (x3 + 1) L ∧ (vp_in (x3 + 2) L ∧ (vp_in (x3 + 3) L ∧ (vp_in (x3 + 4) L ∧ (vp_in (x3 + 5) L ∧ (wp_X4_does (ss (Int32.toNatClampNeg (x3 + 1))) (ss (Int32.toNatClampNeg (x3 + 2))) (ss (Int32.toNatClampNeg (x3 + 3))) (ss (Int32.toNatClampNeg (x3 + 4))) (ss (Int32.toNatClampNeg (x3 + 5))) σ (fun r57 σ56 =>
  (wp_X5_does (ss (Int32.toNatClampNeg (x3 + 1))) (ss (Int32.toNatClampNeg (x3 + 2))) (ss (Int32.toNatClampNeg (x3 + 3))) (ss (Int32.toNatClampNeg (x3 + 4))) (ss (Int32.toNatClampNeg (x3 + 5))) τ (fun r59 τ58 =>
  ((r57 = r59 → wp_law_L18 L ss n (x3 + 6) σ56 τ58) ∧
  (¬ r57 = r59 → False)))))))))))) ∧
  (¬ ((ss (Int32.toNatClampNeg x3)) &&& 31) = 8 → ((((ss (Int32.toNatClampNeg x3)) &&& 31) = 9 → (vp_in (x3 + 1) L ∧ (wp_X4_silent (ss (Int32.toNatClampNeg (x3 + 1))) σ (fun r62 σ61 =>
  (wp_X5_silent (ss (Int32.toNatClampNeg (x3 + 1))) τ (fun r64 τ63 =>
  ((r62 = r64 → wp_law_L18 L ss n (x3 + 6) σ61 τ63) ∧
  (¬ r62 = r64 → False)))))))) ∧
  (¬ ((ss (Int32.toNatClampNeg x3)) &&& 31) = 9 → ((((ss (Int32.toNatClampNeg x3)) &&& 31) = 10 → (vp_in (x3 + 1) L ∧ (wp_X4_shown (ss (Int32.toNatClampNeg (x3 + 1))) σ (fun r67 σ66 =>
  (wp_X5_shown (ss (Int32.toNatClampNeg (x3 + 1))) τ (fun r69 τ68 =>
  ((r67 = r69 → wp_law_L18 L ss n (x3 + 6) σ66 τ68) ∧
  (¬ r67 = r69 → False)))))))) ∧
  (¬ ((ss (Int32.toNatClampNeg x3)) &&& 31) = 10 → ((((ss (Int32.toNatClampNeg x3)) &&& 31) = 11 → (vp_in (x3 + 1) L ∧ (vp_in (x3 + 2) L ∧ (vp_in (x3 + 3) L ∧ (wp_X4_show (ss (Int32.toNatClampNeg (x3 + 1))) (ss (Int32.toNatClampNeg (x3 + 2))) (ss (Int32.toNatClampNeg (x3 + 3))) σ (fun r74 σ73 =>
  (wp_X5_show (ss (Int32.toNatClampNeg (x3 + 1))) (ss (Int32.toNatClampNeg (x3 + 2))) (ss (Int32.toNatClampNeg (x3 + 3))) τ (fun r76 τ75 =>
  ((r74 = r76 → wp_law_L18 L ss n (x3 + 6) σ73 τ75) ∧
  (¬ r74 = r76 → False)))))))))) ∧
  (¬ ((ss (Int32.toNatClampNeg x3)) &&& 31) = 11 → ((((ss (Int32.toNatClampNeg x3)) &&& 31) = 12 → (vp_in (x3 + 1) L ∧ (wp_X4_letters (ss (Int32.toNatClampNeg (x3 + 1))) σ (fun r79 σ78 =>
  (wp_X5_letters (ss (Int32.toNatClampNeg (x3 + 1))) τ (fun r81 τ80 =>
  ((r79 = r81 → wp_law_L18 L ss n (x3 + 6) σ78 τ80) ∧
  (¬ r79 = r81 → False)))))))) ∧
  (¬ ((ss (Int32.toNatClampNeg x3)) &&& 31) = 12 → ((((ss (Int32.toNatClampNeg x3)) &&& 31) = 13 → (vp_in (x3 + 1) L ∧ (vp_in (x3 + 2) L ∧ (vp_in (x3 + 3) L ∧ (vp_in (x3 + 4) L ∧ (wp_X4_letter (ss (Int32.toNatClampNeg (x3 + 1))) (ss (Int32.toNatClampNeg (x3 + 2))) (ss (Int32.toNatClampNeg (x3 + 3))) (ss (Int32.toNatClampNeg (x3 + 4))) σ (fun r87 σ86 =>
  (wp_X5_letter (ss (Int32.toNatClampNeg (x3 + 1))) (ss (Int32.toNatClampNeg (x3 + 2))) (ss (Int32.toNatClampNeg (x3 + 3))) (ss (Int32.toNatClampNeg (x3 + 4))) τ (fun r89 τ88 =>
  ((r87 = r89 → wp_law_L18 L ss n (x3 + 6) σ86 τ88) ∧
  (¬ r87 = r89 → False))))))))))) ∧
  (¬ ((ss (Int32.toNatClampNeg x3)) &&& 31) = 13 → ((((ss (Int32.toNatClampNeg x3)) &&& 31) = 14 → (wp_X4_begin σ (fun σ90 =>
  (wp_X5_begin τ (fun τ91 =>
  wp_law_L18 L ss n (x3 + 6) σ90 τ91))))) ∧
  (¬ ((ss (Int32.toNatClampNeg x3)) &&& 31) = 14 → ((((ss (Int32.toNatClampNeg x3)) &&& 31) = 15 → (vp_in (x3 + 1) L ∧ (vp_in (x3 + 2) L ∧ (wp_X4_run (ss (Int32.toNatClampNeg (x3 + 1))) (ss (Int32.toNatClampNeg (x3 + 2))) σ (fun r95 σ94 =>
  (wp_X5_run (ss (Int32.toNatClampNeg (x3 + 1))) (ss (Int32.toNatClampNeg (x3 + 2))) τ (fun r97 τ96 =>
  ((r95 = r97 → wp_law_L18 L ss n (x3 + 6) σ94 τ96) ∧
  (¬ r95 = r97 → False))))))))) ∧
  (¬ ((ss (Int32.toNatClampNeg x3)) &&& 31) = 15 → ((((ss (Int32.toNatClampNeg x3)) &&& 31) = 16 → (vp_in (x3 + 1) L ∧ (wp_X4_state (ss (Int32.toNatClampNeg (x3 + 1))) σ (fun r100 σ99 =>
  (wp_X5_state (ss (Int32.toNatClampNeg (x3 + 1))) τ (fun r102 τ101 =>
  ((r100 = r102 → wp_law_L18 L ss n (x3 + 6) σ99 τ101) ∧
  (¬ r100 = r102 → False)))))))) ∧
  (¬ ((ss (Int32.toNatClampNeg x3)) &&& 31) = 16 → ((((ss (Int32.toNatClampNeg x3)) &&& 31) = 17 → (wp_X4_ticks σ (fun r104 σ103 =>
  (wp_X5_ticks τ (fun r106 τ105 =>
  ((r104 = r106 → wp_law_L18 L ss n (x3 + 6) σ103 τ105) ∧
  (¬ r104 = r106 → False))))))) ∧
  (¬ ((ss (Int32.toNatClampNeg x3)) &&& 31) = 17 → ((((ss (Int32.toNatClampNeg x3)) &&& 31) = 18 → (vp_in (x3 + 1) L ∧ (vp_in (x3 + 2) L ∧ (vp_in (x3 + 3) L ∧ (wp_X4_walls (ss (Int32.toNatClampNeg (x3 + 1))) (ss (Int32.toNatClampNeg (x3 + 2))) (ss (Int32.toNatClampNeg (x3 + 3))) σ (fun r111 σ110 =>
  (wp_X5_walls (ss (Int32.toNatClampNeg (x3 + 1))) (ss (Int32.toNatClampNeg (x3 + 2))) (ss (Int32.toNatClampNeg (x3 + 3))) τ (fun r113 τ112 =>
  ((r111 = r113 → wp_law_L18 L ss n (x3 + 6) σ110 τ112) ∧
  (¬ r111 = r113 → False)))))))))) ∧
  (¬ ((ss (Int32.toNatClampNeg x3)) &&& 31) = 18 → ((((ss (Int32.toNatClampNeg x3)) &&& 31) = 19 → (vp_in (x3 + 1) L ∧ (wp_X4_give (ss (Int32.toNatClampNeg (x3 + 1))) σ (fun r116 σ115 =>
  (wp_X5_give (ss (Int32.toNatClampNeg (x3 + 1))) τ (fun r118 τ117 =>
  ((r116 = r118 → wp_law_L18 L ss n (x3 + 6) σ115 τ117) ∧
  (¬ r116 = r118 → False)))))))) ∧
  (¬ ((ss (Int32.toNatClampNeg x3)) &&& 31) = 19 → wp_law_L18 L ss n (x3 + 6) σ τ)))))))))))))))))))))))))))))))))))))))))))
