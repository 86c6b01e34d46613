/-! helpers of the walks -/
def lt {α β : Type} (x : α) (f : α → β) : β := f x
theorem lt_e {α β : Type} {x : α} {f : α → β} {r : β} (h : lt x f = r) : ∃ y, y = x ∧ f y = r := ⟨x, rfl, h⟩
def lt2 {α β γ : Type} (x : α × β) (f : α → β → γ) : γ := f x.1 x.2
theorem lt2_e {α β γ : Type} {x : α × β} {f : α → β → γ} {r : γ} (h : lt2 x f = r) : ∃ a b, x = (a, b) ∧ f a b = r := ⟨x.1, x.2, rfl, h⟩
theorem ret2 {α β : Type} {a c : α} {b d : β} (h : some (a, b) = some (c, d)) : a = c ∧ b = d := by cases h; exact ⟨rfl, rfl⟩
theorem ret2t {α β : Type} {a c : α} {b d : β} (h : (a, b) = (c, d)) : a = c ∧ b = d := by cases h; exact ⟨rfl, rfl⟩
def iushr (x y : Int32) : Int32 := (x.toUInt32 >>> (y.toUInt32 &&& Int32.toUInt32 31)).toInt32
def lushr (x : Int64) (y : Int32) : Int64 := (x.toUInt64 >>> (y.toInt64.toUInt64 &&& Int64.toUInt64 63)).toInt64
theorem sw_ne {x k : Int32} (h : ¬ x = k) : x.toInt ≠ k.toInt := fun q => h (Int32.toInt_inj.mp q)
theorem sw_out3 {x : Int32} (h0 : ¬ x = 0) (h1 : ¬ x = 1) (h2 : ¬ x = 2) : x.toInt < 0 ∨ 2 < x.toInt := by
  have a0 := sw_ne h0; have a1 := sw_ne h1; have a2 := sw_ne h2
  simp at a0 a1 a2
  omega
theorem sw_out5 {x : Int32} (h0 : ¬ x = 0) (h1 : ¬ x = 1) (h2 : ¬ x = 2) (h3 : ¬ x = 3) (h4 : ¬ x = 4) : x.toInt < 0 ∨ 4 < x.toInt := by
  have a0 := sw_ne h0; have a1 := sw_ne h1; have a2 := sw_ne h2; have a3 := sw_ne h3; have a4 := sw_ne h4
  simp at a0 a1 a2 a3 a4
  omega
theorem sw_out6 {x : Int32} (h0 : ¬ x = 0) (h1 : ¬ x = 1) (h2 : ¬ x = 2) (h3 : ¬ x = 3) (h4 : ¬ x = 4) (h5 : ¬ x = 5) : x.toInt < 0 ∨ 5 < x.toInt := by
  have a0 := sw_ne h0; have a1 := sw_ne h1; have a2 := sw_ne h2; have a3 := sw_ne h3; have a4 := sw_ne h4; have a5 := sw_ne h5
  simp at a0 a1 a2 a3 a4 a5
  omega
theorem sw_out10 {x : Int32} (h0 : ¬ x = 0) (h1 : ¬ x = 1) (h2 : ¬ x = 2) (h3 : ¬ x = 3) (h4 : ¬ x = 4) (h5 : ¬ x = 5) (h6 : ¬ x = 6) (h7 : ¬ x = 7) (h8 : ¬ x = 8) (h9 : ¬ x = 9) : x.toInt < 0 ∨ 9 < x.toInt := by
  have a0 := sw_ne h0; have a1 := sw_ne h1; have a2 := sw_ne h2; have a3 := sw_ne h3; have a4 := sw_ne h4; have a5 := sw_ne h5; have a6 := sw_ne h6; have a7 := sw_ne h7; have a8 := sw_ne h8; have a9 := sw_ne h9
  simp at a0 a1 a2 a3 a4 a5 a6 a7 a8 a9
  omega
theorem yy_X0_forget : yV yX0_forget RX0 cX0_forget 1 none 0 := ⟨tw_358, tw_356, tw_357, tw_44, rfl, by decide, by decide, by decide +kernel⟩
theorem yy_X0_find : yV yX0_find RX0 cX0_find 2 none 0 := ⟨tw_576, tw_574, tw_575, tw_44, rfl, by decide, by decide, by decide +kernel⟩
theorem yy_X0_take : yV yX0_take RX0 cX0_take 3 none 2 := ⟨tw_585, tw_584, tw_11, tw_44, rfl, by decide, by decide, by decide +kernel⟩
theorem yy_X0_brokenAt : yV yX0_brokenAt RX0 cX0_brokenAt 2 (some .int) 1 := ⟨tw_580, tw_579, tw_10, tw_44, rfl, by decide, by decide, by decide +kernel⟩
theorem yy_X0_placeOfGood : yV yX0_placeOfGood RX0 cX0_placeOfGood 4 (some .int) 1 := ⟨tw_648, tw_646, tw_647, tw_44, rfl, by decide, by decide, by decide +kernel⟩
theorem yy_X0_placeRanked : yV yX0_placeRanked RX0 cX0_placeRanked 2 (some .int) 1 := ⟨tw_601, tw_599, tw_600, tw_44, rfl, by decide, by decide, by decide +kernel⟩
theorem yy_X0_rank : yV yX0_rank RX0 cX0_rank 2 none 0 := ⟨tw_605, tw_604, tw_12, tw_44, rfl, by decide, by decide, by decide +kernel⟩
theorem yy_X0_sortByDigit : yV yX0_sortByDigit RX0 cX0_sortByDigit 7 none 3 := ⟨tw_609, tw_608, tw_13, tw_44, rfl, by decide, by decide, by decide +kernel⟩
theorem yy_X0_slackOf : yV yX0_slackOf RX0 cX0_slackOf 5 (some .int) 1 := ⟨tw_618, tw_616, tw_617, tw_44, rfl, by decide, by decide, by decide +kernel⟩
theorem yy_X0_fewestBarring : yV yX0_fewestBarring RX0 cX0_fewestBarring 3 (some .int) 0 := ⟨tw_627, tw_625, tw_626, tw_44, rfl, by decide, by decide, by decide +kernel⟩
theorem yy_X0_barsAll : yV yX0_barsAll RX0 cX0_barsAll 3 (some .boolean) 1 := ⟨tw_632, tw_631, tw_14, tw_44, rfl, by decide, by decide, by decide +kernel⟩
theorem yy_X0_placeOnFront : yV yX0_placeOnFront RX0 cX0_placeOnFront 6 (some .int) 1 := ⟨tw_640, tw_638, tw_639, tw_44, rfl, by decide, by decide, by decide +kernel⟩
theorem yy_X1_clear : yV yX1_clear RX1 cX1_clear 1 none 0 := ⟨tw_342, tw_340, tw_341, tw_40, rfl, by decide, by decide, by decide +kernel⟩
theorem yy_X1_setDegree : yV yX1_setDegree RX1 cX1_setDegree 3 none 2 := ⟨tw_428, tw_426, tw_427, tw_40, rfl, by decide, by decide, by decide +kernel⟩
theorem yy_X1_brokenBy : yV yX1_brokenBy RX1 cX1_brokenBy 8 (some .int) 5 := ⟨tw_538, tw_536, tw_537, tw_40, rfl, by decide, by decide, by decide +kernel⟩
theorem yy_X1_hasCrowdedPost : yV yX1_hasCrowdedPost RX1 cX1_hasCrowdedPost 5 (some .boolean) 2 := ⟨tw_542, tw_541, tw_8, tw_40, rfl, by decide, by decide, by decide +kernel⟩
theorem yy_X2_clear : yV yX2_clear RX2 cX2_clear 2 none 1 := ⟨tw_335, tw_333, tw_334, tw_39, rfl, by decide, by decide, by decide +kernel⟩
theorem yy_X2_addLine : yV yX2_addLine RX2 cX2_addLine 6 (some .int) 4 := ⟨tw_396, tw_394, tw_395, tw_39, rfl, by decide, by decide, by decide +kernel⟩
theorem yy_X2_hasPost : yV yX2_hasPost RX2 cX2_hasPost 2 (some .boolean) 1 := ⟨tw_392, tw_390, tw_391, tw_39, rfl, by decide, by decide, by decide +kernel⟩
theorem yy_X2_hasLine : yV yX2_hasLine RX2 cX2_hasLine 2 (some .boolean) 1 := ⟨tw_404, tw_402, tw_403, tw_39, rfl, by decide, by decide, by decide +kernel⟩
theorem yy_X2_hasLines : yV yX2_hasLines RX2 cX2_hasLines 2 (some .boolean) 1 := ⟨tw_460, tw_458, tw_459, tw_39, rfl, by decide, by decide, by decide +kernel⟩
theorem yy_X2_isCut : yV yX2_isCut RX2 cX2_isCut 2 (some .boolean) 1 := ⟨tw_408, tw_406, tw_407, tw_39, rfl, by decide, by decide, by decide +kernel⟩
theorem yy_X2_redsIn : yV yX2_redsIn RX2 cX2_redsIn 2 (some .int) 1 := ⟨tw_548, tw_546, tw_547, tw_39, rfl, by decide, by decide, by decide +kernel⟩
theorem yy_X2_mostLinesAtAPost : yV yX2_mostLinesAtAPost RX2 cX2_mostLinesAtAPost 4 (some .int) 1 := ⟨tw_557, tw_555, tw_556, tw_39, rfl, by decide, by decide, by decide +kernel⟩
theorem yy_X3_forget : yV yX3_forget RX3 cX3_forget 1 none 0 := ⟨tw_589, tw_587, tw_588, tw_45, rfl, by decide, by decide, by decide +kernel⟩
theorem yy_X3_length : yV yX3_length RX3 cX3_length 3 (some .int) 2 := ⟨tw_653, tw_651, tw_652, tw_45, rfl, by decide, by decide, by decide +kernel⟩
theorem yy_X3_treeAt : yV yX3_treeAt RX3 cX3_treeAt 6 (some .int) 3 := ⟨tw_686, tw_684, tw_685, tw_45, rfl, by decide, by decide, by decide +kernel⟩
theorem yy_X3_standAt : yV yX3_standAt RX3 cX3_standAt 4 none 1 := ⟨tw_657, tw_656, tw_15, tw_45, rfl, by decide, by decide, by decide +kernel⟩
theorem yy_X3_spreadLayer : yV yX3_spreadLayer RX3 cX3_spreadLayer 2 none 0 := ⟨tw_668, tw_667, tw_16, tw_45, rfl, by decide, by decide, by decide +kernel⟩
theorem yy_X3_spread : yV yX3_spread RX3 cX3_spread 6 none 1 := ⟨tw_672, tw_671, tw_17, tw_45, rfl, by decide, by decide, by decide +kernel⟩
theorem yy_X3_reach : yV yX3_reach RX3 cX3_reach 3 none 1 := ⟨tw_677, tw_676, tw_18, tw_45, rfl, by decide, by decide, by decide +kernel⟩
theorem yy_X3_nextOf : yV yX3_nextOf RX3 cX3_nextOf 4 (some .int) 1 := ⟨tw_691, tw_690, tw_19, tw_45, rfl, by decide, by decide, by decide +kernel⟩
theorem yy_X4_walk : yV yX4_walk RX4 cX4_walk 3 none 1 := ⟨tw_518, tw_516, tw_517, tw_41, rfl, by decide, by decide, by decide +kernel⟩
theorem yy_X4_demandsBehind : yV yX4_demandsBehind RX4 cX4_demandsBehind 11 (some .int) 5 := ⟨tw_531, tw_530, tw_7, tw_41, rfl, by decide, by decide, by decide +kernel⟩
theorem yy_X5_clear : yV yX5_clear RX5 cX5_clear 1 none 0 := ⟨tw_351, tw_349, tw_350, tw_43, rfl, by decide, by decide, by decide +kernel⟩
theorem yy_X5_put : yV yX5_put RX5 cX5_put 2 none 1 := ⟨tw_488, tw_486, tw_487, tw_43, rfl, by decide, by decide, by decide +kernel⟩
theorem yy_X5_drop : yV yX5_drop RX5 cX5_drop 2 none 1 := ⟨tw_663, tw_661, tw_662, tw_43, rfl, by decide, by decide, by decide +kernel⟩
theorem yy_X5_has : yV yX5_has RX5 cX5_has 2 (some .boolean) 1 := ⟨tw_500, tw_498, tw_499, tw_43, rfl, by decide, by decide, by decide +kernel⟩
theorem yy_X5_hasInWordOf : yV yX5_hasInWordOf RX5 cX5_hasInWordOf 2 (some .boolean) 1 := ⟨tw_484, tw_482, tw_483, tw_43, rfl, by decide, by decide, by decide +kernel⟩
theorem yy_X5_lesserInWordOf : yV yX5_lesserInWordOf RX5 cX5_lesserInWordOf 2 (some .int) 1 := ⟨tw_504, tw_502, tw_503, tw_43, rfl, by decide, by decide, by decide +kernel⟩
theorem yy_X6_clear : yV yX6_clear RX6 cX6_clear 1 none 0 := ⟨tw_347, tw_345, tw_346, tw_42, rfl, by decide, by decide, by decide +kernel⟩
theorem yy_X6_forgetMeasures : yV yX6_forgetMeasures RX6 cX6_forgetMeasures 1 none 0 := ⟨tw_420, tw_418, tw_419, tw_42, rfl, by decide, by decide, by decide +kernel⟩
theorem yy_X6_measureAll : yV yX6_measureAll RX6 cX6_measureAll 3 none 1 := ⟨tw_571, tw_569, tw_570, tw_42, rfl, by decide, by decide, by decide +kernel⟩
theorem yy_X6_placeOf : yV yX6_placeOf RX6 cX6_placeOf 2 (some .int) 1 := ⟨tw_496, tw_494, tw_495, tw_42, rfl, by decide, by decide, by decide +kernel⟩
theorem yy_X6_catchUp : yV yX6_catchUp RX6 cX6_catchUp 3 none 0 := ⟨tw_468, tw_466, tw_467, tw_42, rfl, by decide, by decide, by decide +kernel⟩
theorem yy_X6_grow : yV yX6_grow RX6 cX6_grow 7 none 4 := ⟨tw_472, tw_471, tw_3, tw_42, rfl, by decide, by decide, by decide +kernel⟩
theorem yy_X6_areJoined : yV yX6_areJoined RX6 cX6_areJoined 3 (some .boolean) 2 := ⟨tw_476, tw_475, tw_4, tw_42, rfl, by decide, by decide, by decide +kernel⟩
theorem yy_X6_join : yV yX6_join RX6 cX6_join 6 none 2 := ⟨tw_492, tw_491, tw_6, tw_42, rfl, by decide, by decide, by decide +kernel⟩
theorem yy_X6_add : yV yX6_add RX6 cX6_add 2 none 1 := ⟨tw_480, tw_479, tw_5, tw_42, rfl, by decide, by decide, by decide +kernel⟩
theorem yy_X7_posts : yV yX7_posts RX7 cX7_posts 2 (some .boolean) 1 := ⟨tw_381, tw_379, tw_380, tw_38, rfl, by decide, by decide, by decide +kernel⟩
theorem yy_X7_line : yV yX7_line RX7 cX7_line 7 (some .int) 4 := ⟨tw_388, tw_386, tw_387, tw_38, rfl, by decide, by decide, by decide +kernel⟩
theorem yy_X7_cut : yV yX7_cut RX7 cX7_cut 3 (some .boolean) 2 := ⟨tw_400, tw_398, tw_399, tw_38, rfl, by decide, by decide, by decide +kernel⟩
theorem yy_X7_price : yV yX7_price RX7 cX7_price 3 (some .boolean) 2 := ⟨tw_412, tw_410, tw_411, tw_38, rfl, by decide, by decide, by decide +kernel⟩
theorem yy_X7_degree : yV yX7_degree RX7 cX7_degree 3 (some .boolean) 2 := ⟨tw_424, tw_422, tw_423, tw_38, rfl, by decide, by decide, by decide +kernel⟩
theorem yy_X7_depth : yV yX7_depth RX7 cX7_depth 2 (some .boolean) 1 := ⟨tw_432, tw_430, tw_431, tw_38, rfl, by decide, by decide, by decide +kernel⟩
theorem yy_X7_root : yV yX7_root RX7 cX7_root 2 (some .boolean) 1 := ⟨tw_436, tw_434, tw_435, tw_38, rfl, by decide, by decide, by decide +kernel⟩
theorem yy_X7_load : yV yX7_load RX7 cX7_load 2 (some .boolean) 1 := ⟨tw_440, tw_438, tw_439, tw_38, rfl, by decide, by decide, by decide +kernel⟩
theorem yy_X7_demand : yV yX7_demand RX7 cX7_demand 3 (some .boolean) 2 := ⟨tw_444, tw_442, tw_443, tw_38, rfl, by decide, by decide, by decide +kernel⟩
theorem yy_X7_reds : yV yX7_reds RX7 cX7_reds 3 (some .boolean) 2 := ⟨tw_448, tw_446, tw_447, tw_38, rfl, by decide, by decide, by decide +kernel⟩
theorem yy_X7_way : yV yX7_way RX7 cX7_way 2 (some .boolean) 1 := ⟨tw_452, tw_450, tw_451, tw_38, rfl, by decide, by decide, by decide +kernel⟩
theorem yy_X7_tree : yV yX7_tree RX7 cX7_tree 2 (some .int) 1 := ⟨tw_456, tw_454, tw_455, tw_38, rfl, by decide, by decide, by decide +kernel⟩
theorem yy_X7_breaks : yV yX7_breaks RX7 cX7_breaks 2 (some .int) 1 := ⟨tw_514, tw_512, tw_513, tw_38, rfl, by decide, by decide, by decide +kernel⟩
theorem yy_X7_measure : yV yX7_measure RX7 cX7_measure 3 (some .int) 2 := ⟨tw_553, tw_551, tw_552, tw_38, rfl, by decide, by decide, by decide +kernel⟩
theorem yy_X7_many : yV yX7_many RX7 cX7_many 1 (some .int) 0 := ⟨tw_563, tw_561, tw_562, tw_38, rfl, by decide, by decide, by decide +kernel⟩
theorem yy_X7_good : yV yX7_good RX7 cX7_good 2 (some .int) 1 := ⟨tw_593, tw_591, tw_592, tw_38, rfl, by decide, by decide, by decide +kernel⟩
theorem yy_X7_ranked : yV yX7_ranked RX7 cX7_ranked 2 (some .int) 1 := ⟨tw_597, tw_595, tw_596, tw_38, rfl, by decide, by decide, by decide +kernel⟩
theorem yy_X7_slack : yV yX7_slack RX7 cX7_slack 2 (some .int) 1 := ⟨tw_614, tw_612, tw_613, tw_38, rfl, by decide, by decide, by decide +kernel⟩
theorem yy_X7_bar : yV yX7_bar RX7 cX7_bar 1 (some .int) 0 := ⟨tw_623, tw_621, tw_622, tw_38, rfl, by decide, by decide, by decide +kernel⟩
theorem yy_X7_front : yV yX7_front RX7 cX7_front 4 (some .int) 2 := ⟨tw_636, tw_634, tw_635, tw_38, rfl, by decide, by decide, by decide +kernel⟩
theorem yy_X7_swaps : yV yX7_swaps RX7 cX7_swaps 5 (some .int) 2 := ⟨tw_644, tw_642, tw_643, tw_38, rfl, by decide, by decide, by decide +kernel⟩
theorem yy_X7_step : yV yX7_step RX7 cX7_step 6 (some .int) 3 := ⟨tw_682, tw_680, tw_681, tw_38, rfl, by decide, by decide, by decide +kernel⟩
theorem yy_X7_look : yV yX7_look RX7 cX7_look 3 (some .int) 2 := ⟨tw_696, tw_694, tw_695, tw_38, rfl, by decide, by decide, by decide +kernel⟩
theorem yy_X7_count : yV yX7_count RX7 cX7_count 2 (some .int) 1 := ⟨tw_700, tw_698, tw_699, tw_38, rfl, by decide, by decide, by decide +kernel⟩
theorem yy_X7_wholeTrees : yV yX7_wholeTrees RX7 cX7_wholeTrees 1 (some .int) 0 := ⟨tw_704, tw_703, tw_20, tw_38, rfl, by decide, by decide, by decide +kernel⟩
theorem yy_X7_countAtPost : yV yX7_countAtPost RX7 cX7_countAtPost 2 (some .int) 1 := ⟨tw_708, tw_707, tw_21, tw_38, rfl, by decide, by decide, by decide +kernel⟩
theorem yy_X7_within : yS yX7_within cX7_within 3 (some .boolean) 3 := ⟨tw_384, tw_383, tw_38, by decide, by decide, by decide +kernel⟩
theorem yy_X7_lowest : yS yX7_lowest cX7_lowest 1 (some .int) 1 := ⟨tw_521, tw_520, tw_38, by decide, by decide, by decide +kernel⟩
theorem yy_X7_startAnew : yV yX7_startAnew RX7 cX7_startAnew 2 none 1 := ⟨tw_331, tw_330, tw_0, tw_38, rfl, by decide, by decide, by decide +kernel⟩
theorem yy_X7_forgetMeasures : yV yX7_forgetMeasures RX7 cX7_forgetMeasures 1 none 0 := ⟨tw_416, tw_415, tw_1, tw_38, rfl, by decide, by decide, by decide +kernel⟩
theorem yy_X7_isTree : yV yX7_isTree RX7 cX7_isTree 2 (some .boolean) 1 := ⟨tw_464, tw_463, tw_2, tw_38, rfl, by decide, by decide, by decide +kernel⟩
theorem yy_X7_judge : yV yX7_judge RX7 cX7_judge 1 none 0 := ⟨tw_567, tw_566, tw_9, tw_38, rfl, by decide, by decide, by decide +kernel⟩
theorem yy_X8_asAtFirst : yV yX8_asAtFirst RX8 cX8_asAtFirst 2 none 0 := ⟨tw_718, tw_717, tw_22, tw_47, rfl, by decide, by decide, by decide +kernel⟩
theorem yy_X8_lies : yS yX8_lies cX8_lies 3 (some .boolean) 3 := ⟨tw_817, tw_816, tw_47, by decide, by decide, by decide +kernel⟩
theorem yy_X8_has : yS yX8_has cX8_has 2 (some .boolean) 2 := ⟨tw_883, tw_882, tw_47, by decide, by decide, by decide +kernel⟩
theorem yy_X8_sizeOf : yS yX8_sizeOf cX8_sizeOf 3 (some .int) 1 := ⟨tw_880, tw_879, tw_47, by decide, by decide, by decide +kernel⟩
theorem yy_X8_isPost : yV yX8_isPost RX8 cX8_isPost 2 (some .boolean) 1 := ⟨tw_825, tw_824, tw_23, tw_47, rfl, by decide, by decide, by decide +kernel⟩
theorem yy_X8_isLine : yV yX8_isLine RX8 cX8_isLine 2 (some .boolean) 1 := ⟨tw_833, tw_832, tw_24, tw_47, rfl, by decide, by decide, by decide +kernel⟩
theorem yy_X8_posts : yV yX8_posts RX8 cX8_posts 2 (some .boolean) 1 := ⟨tw_814, tw_812, tw_813, tw_47, rfl, by decide, by decide, by decide +kernel⟩
theorem yy_X8_line : yV yX8_line RX8 cX8_line 5 (some .int) 4 := ⟨tw_821, tw_819, tw_820, tw_47, rfl, by decide, by decide, by decide +kernel⟩
theorem yy_X8_cut : yV yX8_cut RX8 cX8_cut 3 (some .boolean) 2 := ⟨tw_829, tw_827, tw_828, tw_47, rfl, by decide, by decide, by decide +kernel⟩
theorem yy_X8_price : yV yX8_price RX8 cX8_price 3 (some .boolean) 2 := ⟨tw_837, tw_835, tw_836, tw_47, rfl, by decide, by decide, by decide +kernel⟩
theorem yy_X8_degree : yV yX8_degree RX8 cX8_degree 3 (some .boolean) 2 := ⟨tw_841, tw_839, tw_840, tw_47, rfl, by decide, by decide, by decide +kernel⟩
theorem yy_X8_depth : yV yX8_depth RX8 cX8_depth 2 (some .boolean) 1 := ⟨tw_845, tw_843, tw_844, tw_47, rfl, by decide, by decide, by decide +kernel⟩
theorem yy_X8_root : yV yX8_root RX8 cX8_root 2 (some .boolean) 1 := ⟨tw_849, tw_847, tw_848, tw_47, rfl, by decide, by decide, by decide +kernel⟩
theorem yy_X8_load : yV yX8_load RX8 cX8_load 2 (some .boolean) 1 := ⟨tw_853, tw_851, tw_852, tw_47, rfl, by decide, by decide, by decide +kernel⟩
theorem yy_X8_demand : yV yX8_demand RX8 cX8_demand 3 (some .boolean) 2 := ⟨tw_857, tw_855, tw_856, tw_47, rfl, by decide, by decide, by decide +kernel⟩
theorem yy_X8_reds : yV yX8_reds RX8 cX8_reds 3 (some .boolean) 2 := ⟨tw_861, tw_859, tw_860, tw_47, rfl, by decide, by decide, by decide +kernel⟩
theorem yy_X8_way : yV yX8_way RX8 cX8_way 2 (some .boolean) 1 := ⟨tw_865, tw_863, tw_864, tw_47, rfl, by decide, by decide, by decide +kernel⟩
theorem yy_X8_isTree : yV yX8_isTree RX8 cX8_isTree 5 (some .boolean) 1 := ⟨tw_877, tw_876, tw_26, tw_47, rfl, by decide, by decide, by decide +kernel⟩
theorem yy_X8_goes : yV yX8_goes RX8 cX8_goes 5 (some .int) 4 := ⟨tw_887, tw_886, tw_27, tw_47, rfl, by decide, by decide, by decide +kernel⟩
theorem yy_X8_measured : yV yX8_measured RX8 cX8_measured 7 (some .int) 2 := ⟨tw_903, tw_902, tw_30, tw_47, rfl, by decide, by decide, by decide +kernel⟩
theorem yy_X8_linesAt : yV yX8_linesAt RX8 cX8_linesAt 5 (some .int) 2 := ⟨tw_899, tw_898, tw_29, tw_47, rfl, by decide, by decide, by decide +kernel⟩
theorem yy_X8_broken : yV yX8_broken RX8 cX8_broken 4 (some .int) 1 := ⟨tw_895, tw_894, tw_28, tw_47, rfl, by decide, by decide, by decide +kernel⟩
theorem yy_X8_isSet : yV yX8_isSet RX8 cX8_isSet 2 (some .boolean) 1 := ⟨tw_873, tw_872, tw_25, tw_47, rfl, by decide, by decide, by decide +kernel⟩
theorem yy_X8_tree : yV yX8_tree RX8 cX8_tree 2 (some .int) 1 := ⟨tw_869, tw_867, tw_868, tw_47, rfl, by decide, by decide, by decide +kernel⟩
theorem yy_X8_breaks : yV yX8_breaks RX8 cX8_breaks 2 (some .int) 1 := ⟨tw_891, tw_889, tw_890, tw_47, rfl, by decide, by decide, by decide +kernel⟩
theorem yy_X8_measure : yV yX8_measure RX8 cX8_measure 3 (some .int) 2 := ⟨tw_907, tw_905, tw_906, tw_47, rfl, by decide, by decide, by decide +kernel⟩
theorem yy_X8_works : yV yX8_works RX8 cX8_works 2 none 0 := ⟨tw_915, tw_914, tw_31, tw_47, rfl, by decide, by decide, by decide +kernel⟩
theorem yy_X8_sorts : yV yX8_sorts RX8 cX8_sorts 2 none 0 := ⟨tw_919, tw_918, tw_32, tw_47, rfl, by decide, by decide, by decide +kernel⟩
theorem yy_X8_many : yV yX8_many RX8 cX8_many 1 (some .int) 0 := ⟨tw_911, tw_909, tw_910, tw_47, rfl, by decide, by decide, by decide +kernel⟩
theorem yy_X8_good : yV yX8_good RX8 cX8_good 2 (some .int) 1 := ⟨tw_923, tw_921, tw_922, tw_47, rfl, by decide, by decide, by decide +kernel⟩
theorem yy_X8_ranked : yV yX8_ranked RX8 cX8_ranked 2 (some .int) 1 := ⟨tw_927, tw_925, tw_926, tw_47, rfl, by decide, by decide, by decide +kernel⟩
theorem yy_X8_best : yV yX8_best RX8 cX8_best 5 (some .int) 2 := ⟨tw_935, tw_934, tw_33, tw_47, rfl, by decide, by decide, by decide +kernel⟩
theorem yy_X8_slack : yV yX8_slack RX8 cX8_slack 4 (some .int) 1 := ⟨tw_931, tw_929, tw_930, tw_47, rfl, by decide, by decide, by decide +kernel⟩
theorem yy_X8_bar : yV yX8_bar RX8 cX8_bar 5 (some .int) 0 := ⟨tw_939, tw_937, tw_938, tw_47, rfl, by decide, by decide, by decide +kernel⟩
theorem yy_X8_front : yV yX8_front RX8 cX8_front 7 (some .int) 2 := ⟨tw_943, tw_941, tw_942, tw_47, rfl, by decide, by decide, by decide +kernel⟩
theorem yy_X8_swapped : yV yX8_swapped RX8 cX8_swapped 4 (some .int) 3 := ⟨tw_959, tw_958, tw_36, tw_47, rfl, by decide, by decide, by decide +kernel⟩
theorem yy_X8_measures : yV yX8_measures RX8 cX8_measures 8 none 1 := ⟨tw_955, tw_954, tw_35, tw_47, rfl, by decide, by decide, by decide +kernel⟩
theorem yy_X8_goodOf : yV yX8_goodOf RX8 cX8_goodOf 2 (some .int) 1 := ⟨tw_951, tw_950, tw_34, tw_47, rfl, by decide, by decide, by decide +kernel⟩
theorem yy_X8_swaps : yV yX8_swaps RX8 cX8_swaps 5 (some .int) 2 := ⟨tw_947, tw_945, tw_946, tw_47, rfl, by decide, by decide, by decide +kernel⟩
theorem yy_X8_step : yV yX8_step RX8 cX8_step 10 (some .int) 3 := ⟨tw_963, tw_961, tw_962, tw_47, rfl, by decide, by decide, by decide +kernel⟩
theorem yy_X8_look : yV yX8_look RX8 cX8_look 3 (some .int) 2 := ⟨tw_968, tw_966, tw_967, tw_47, rfl, by decide, by decide, by decide +kernel⟩
theorem yy_X8_count : yV yX8_count RX8 cX8_count 4 (some .int) 1 := ⟨tw_972, tw_970, tw_971, tw_47, rfl, by decide, by decide, by decide +kernel⟩
theorem yy_J6_bitCount_0f7a4 : yS yJ6_bitCount_0f7a4 cJ6_bitCount_0f7a4 1 (some .int) 1 := ⟨tw_524, tw_523, tw_49, by decide, by decide, by decide +kernel⟩
theorem yy_J13_bitCount_95d88 : yS yJ13_bitCount_95d88 cJ13_bitCount_95d88 2 (some .int) 1 := ⟨tw_507, tw_506, tw_48, by decide, by decide, by decide +kernel⟩
theorem yy_J9_max_7cf53 : yS yJ9_max_7cf53 cJ9_max_7cf53 2 (some .int) 2 := ⟨tw_534, tw_533, tw_50, by decide, by decide, by decide +kernel⟩
theorem yy_J7_fill_d0a16 : yS yJ7_fill_d0a16 cJ7_fill_d0a16 5 none 2 := ⟨tw_354, tw_353, tw_46, by decide, by decide, by decide +kernel⟩
theorem yy_J7_fill_53178 : yS yJ7_fill_53178 cJ7_fill_53178 4 none 2 := ⟨tw_338, tw_337, tw_46, by decide, by decide, by decide +kernel⟩
def imax (x y : Int32) : Int32 := if x < y then y else x
theorem xmax {p : Program} {l : Launch} {e : Env} {R : Room} {s : State} {m : MethodId} {args : Array Value} {below : List Frame} {meth : Method} {c : Code} {H : Heap} {locs : List Loc} {cc : ByteArray} {pc : Nat} {ls : Array Slot} {D : va_G} {A : Nat → Prop} {Q : State → Prop} {own : String} {nL index : Nat} {ret0 : Option FieldType} {rest : List Value} {tys : List (ClassId × FieldType)} {ω : St → va_W} (hC : Cx p s m args meth c D A tys ω own cc nL ret0) {x y : Int32} (hsz : ls.size = nL) (hl : Cond.methodLink own index yJ9_max_7cf53 ∈ gw) (hf : 1 ≤ R.frames) (hlo : (rest.map fun v => v.category).sum + 13 ≤ R.locals) (hdg : decode cc pc = .ok (.invokestatic index, 3)) (kk : W p l e R s m args below meth c H locs 0 0 Q (F0 m (pc + 3) ls (.int (imax x y) :: rest))) : W p l e R s m args below meth c H locs 0 0 Q (F0 m pc ls (.int y :: .int x :: rest)) := by
  obtain ⟨hx, hb, hr, hlocks, hml, hown, hts, hK, hN, hD, hA⟩ := hC
  exact va_mmax hx hb (hml.trans hsz.symm) hown (hts _ hl) (hts _ yy_J9_max_7cf53.2.1) (hts _ yy_J9_max_7cf53.2.2.1) (hts _ yy_J9_max_7cf53.1) hf hlo (Nat.zero_le _) (Nat.zero_le _) hdg kk
def fillI (σ : St) (k n : Nat) (x : Int32) : St := sA σ k (fun j => if j < n then x else σ.2.1 k j)
def fillJ (σ : St) (k n : Nat) (x : Int64) : St := sJ σ k (fun j => if j < n then x else σ.2.2 k j)
theorem fillI_0 (σ : St) (k : Nat) (x : Int32) : fillI σ k 0 x = σ := by
  unfold fillI sA
  simp only [Nat.not_lt_zero, if_false]
  have : va_up σ.2.1 k (σ.2.1 k) = σ.2.1 := by funext j; unfold va_up; split <;> simp_all
  rw [show (fun j => σ.2.1 k j) = σ.2.1 k from rfl, this]
theorem fillI_s (σ : St) (k i : Nat) (x : Int32) : sA (fillI σ k i x) k (upd ((fillI σ k i x).2.1 k) i x) = fillI σ k (i + 1) x := by
  unfold fillI sA
  refine Prod.ext rfl (Prod.ext ?_ rfl)
  funext j
  simp only [va_up]
  split
  · rename_i h
    funext q
    simp only [upd, if_true]
    by_cases hq : q = i
    · subst hq; simp
    · by_cases h2 : q < i
      · simp [hq, h2, Nat.lt_succ_of_lt h2]
      · have : ¬ q < i + 1 := by omega
        simp [hq, h2, this]
  · rfl
theorem fillJ_0 (σ : St) (k : Nat) (x : Int64) : fillJ σ k 0 x = σ := by
  unfold fillJ sJ
  simp only [Nat.not_lt_zero, if_false]
  have : va_up σ.2.2 k (σ.2.2 k) = σ.2.2 := by funext j; unfold va_up; split <;> simp_all
  rw [show (fun j => σ.2.2 k j) = σ.2.2 k from rfl, this]
theorem fillJ_s (σ : St) (k i : Nat) (x : Int64) : sJ (fillJ σ k i x) k (vp_updL ((fillJ σ k i x).2.2 k) i x) = fillJ σ k (i + 1) x := by
  unfold fillJ sJ
  refine Prod.ext rfl (Prod.ext rfl ?_)
  funext j
  simp only [va_up]
  split
  · rename_i h
    funext q
    simp only [vp_updL, if_true]
    by_cases hq : q = i
    · subst hq; simp
    · by_cases h2 : q < i
      · simp [hq, h2, Nat.lt_succ_of_lt h2]
      · have : ¬ q < i + 1 := by omega
        simp [hq, h2, this]
  · rfl
abbrev rm_fill : Room := { frames := 0, cells := 0, slots := 0, locals := 0 }
theorem dJ7_fill_53178_0 : decode cJ7_fill_53178 0 = .ok (.iconst 0, 1) := by decide +kernel
theorem dJ7_fill_53178_1 : decode cJ7_fill_53178 1 = .ok (.istore_n 2, 1) := by decide +kernel
theorem dJ7_fill_53178_2 : decode cJ7_fill_53178 2 = .ok (.aload_n 0, 1) := by decide +kernel
theorem dJ7_fill_53178_3 : decode cJ7_fill_53178 3 = .ok (.arraylength, 1) := by decide +kernel
theorem dJ7_fill_53178_4 : decode cJ7_fill_53178 4 = .ok (.istore_n 3, 1) := by decide +kernel
theorem dJ7_fill_53178_5 : decode cJ7_fill_53178 5 = .ok (.iload_n 2, 1) := by decide +kernel
theorem dJ7_fill_53178_6 : decode cJ7_fill_53178 6 = .ok (.iload_n 3, 1) := by decide +kernel
theorem dJ7_fill_53178_7 : decode cJ7_fill_53178 7 = .ok (.if_icmp .ge 13, 3) := by decide +kernel
theorem dJ7_fill_53178_10 : decode cJ7_fill_53178 10 = .ok (.aload_n 0, 1) := by decide +kernel
theorem dJ7_fill_53178_11 : decode cJ7_fill_53178 11 = .ok (.iload_n 2, 1) := by decide +kernel
theorem dJ7_fill_53178_12 : decode cJ7_fill_53178 12 = .ok (.iload_n 1, 1) := by decide +kernel
theorem dJ7_fill_53178_13 : decode cJ7_fill_53178 13 = .ok (.iastore, 1) := by decide +kernel
theorem dJ7_fill_53178_14 : decode cJ7_fill_53178 14 = .ok (.iinc 2 1, 3) := by decide +kernel
theorem dJ7_fill_53178_17 : decode cJ7_fill_53178 17 = .ok (.goto (-12), 3) := by decide +kernel
theorem dJ7_fill_53178_20 : decode cJ7_fill_53178 20 = .ok (.return_, 1) := by decide +kernel
theorem dJ7_fill_d0a16_0 : decode cJ7_fill_d0a16 0 = .ok (.iconst 0, 1) := by decide +kernel
theorem dJ7_fill_d0a16_1 : decode cJ7_fill_d0a16 1 = .ok (.istore_n 3, 1) := by decide +kernel
theorem dJ7_fill_d0a16_2 : decode cJ7_fill_d0a16 2 = .ok (.aload_n 0, 1) := by decide +kernel
theorem dJ7_fill_d0a16_3 : decode cJ7_fill_d0a16 3 = .ok (.arraylength, 1) := by decide +kernel
theorem dJ7_fill_d0a16_4 : decode cJ7_fill_d0a16 4 = .ok (.istore 4, 2) := by decide +kernel
theorem dJ7_fill_d0a16_6 : decode cJ7_fill_d0a16 6 = .ok (.iload_n 3, 1) := by decide +kernel
theorem dJ7_fill_d0a16_7 : decode cJ7_fill_d0a16 7 = .ok (.iload 4, 2) := by decide +kernel
theorem dJ7_fill_d0a16_9 : decode cJ7_fill_d0a16 9 = .ok (.if_icmp .ge 13, 3) := by decide +kernel
theorem dJ7_fill_d0a16_12 : decode cJ7_fill_d0a16 12 = .ok (.aload_n 0, 1) := by decide +kernel
theorem dJ7_fill_d0a16_13 : decode cJ7_fill_d0a16 13 = .ok (.iload_n 3, 1) := by decide +kernel
theorem dJ7_fill_d0a16_14 : decode cJ7_fill_d0a16 14 = .ok (.lload_n 1, 1) := by decide +kernel
theorem dJ7_fill_d0a16_15 : decode cJ7_fill_d0a16 15 = .ok (.lastore, 1) := by decide +kernel
theorem dJ7_fill_d0a16_16 : decode cJ7_fill_d0a16 16 = .ok (.iinc 3 1, 3) := by decide +kernel
theorem dJ7_fill_d0a16_19 : decode cJ7_fill_d0a16 19 = .ok (.goto (-13), 3) := by decide +kernel
theorem dJ7_fill_d0a16_22 : decode cJ7_fill_d0a16 22 = .ok (.return_, 1) := by decide +kernel
set_option maxHeartbeats 4000000 in
theorem k_fillI (l : Launch) (ω : St → va_W) (hω : wA ω) (tys : List (ClassId × FieldType)) (cA : ClassId) (q0 t0 k n a : Nat) (hat : ∀ σ : St, (ω σ)[q0]? = some (a, .inl (cA, n, .inl (σ.2.1 k)))) (hset : ∀ (σ : St) (g : Nat → Int32), (ω σ).set q0 (a, .inl (cA, n, .inl g)) = ω (sA σ k g)) (ht : tys[t0]? = some (cA, .int)) (hn : n < 2 ^ 31) (x : Int32) (σ0 : St) : CtV l yJ7_fill_53178 (gws (.code yJ7_fill_53178 cJ7_fill_53178 4 none)) rm_fill tys ω [.ref a, .int x] σ0 (fillI σ0 k n x) := by
  refine CtV.of (by decide) hω (Nat.le_of_ble_eq_true rfl) ?_
  generalize hav : ([.ref a, .int x] : List Value) = av
  intro p e s m below meth c D A hC ls hl hP hS
  obtain ⟨hx, hb, hr, hlocks, hml, hown, hts, hK, hN, hD, hA⟩ := id hC
  rw [← hav] at hl
  have hl : lv_has ls 4 [(0, .ref a), (1, .int x)] := hl
  have loop : ∀ (u i : Nat), i + u = n → ∀ (H : Heap) (locs : List Loc) (ls : Array Slot), va_P D vwCl (ω (fillI σ0 k i x)) H → va_S A s.heap H locs → lv_has ls 4 [(0, .ref a), (1, .int x), (2, .int (nI i)), (3, .int (nI n))] → W p l e rm_fill s m av.toArray below meth c H locs 0 0 (QV below av.toArray s D A ω (fillI σ0 k n x)) (F0 m 5 ls []) := by
    intro u
    induction u with
    | zero =>
      intro i hi H locs ls hP hS hl
      have e : i = n := by omega
      subst e
      refine lv_iload_n hx hb dJ7_fill_53178_5 rfl (lv_at hl 2 rfl) ?_
      refine lv_iload_n hx hb dJ7_fill_53178_6 rfl (lv_at hl 3 rfl) ?_
      refine lv_icmp_ge (tgt := 20) hx hb dJ7_fill_53178_7 (by decide) (fun c1 => ?_) (fun c1 => ?_)
      · exact retV hx hb hr hlocks hP hS rfl dJ7_fill_53178_20
      · exact absurd (nI_le (Nat.le_refl _) hn) c1
    | succ u ih =>
      intro i hi H locs ls hP hS hl
      refine lv_iload_n hx hb dJ7_fill_53178_5 rfl (lv_at hl 2 rfl) ?_
      refine lv_iload_n hx hb dJ7_fill_53178_6 rfl (lv_at hl 3 rfl) ?_
      refine lv_icmp_ge (tgt := 20) hx hb dJ7_fill_53178_7 (by decide) (fun c1 => ?_) (fun c1 => ?_)
      · exact absurd c1 (nI_ge (by omega) hn)
      · refine lv_aload_n hx hb dJ7_fill_53178_10 rfl (lv_at hl 0 rfl) ?_
        refine lv_iload_n hx hb dJ7_fill_53178_11 rfl (lv_at hl 2 rfl) ?_
        refine lv_iload_n hx hb dJ7_fill_53178_12 rfl (lv_at hl 1 rfl) ?_
        refine va_iast hx hb hK hP (hD _) hS q0 t0 (hat _) ht (vp_in_nI (by omega) hn) dJ7_fill_53178_13 (fun H locs hP _ hS => ?_)
        rw [hset, nI_clamp (by omega), fillI_s] at hP
        refine lv_iinc (v := nI (i + 1)) (lv' := [(2, .int (nI (i + 1))), (0, .ref a), (1, .int x), (3, .int (nI n))]) hx hb dJ7_fill_53178_14 hl (k := 2) rfl (nI_1 i) (by decide) rfl (fun ls hl => ?_)
        refine lv_goto (tgt := 5) hx hb dJ7_fill_53178_17 (by decide) ?_
        exact ih (i + 1) (by omega) H locs ls hP hS (lv_sub hl [1, 2, 0, 3] rfl)
  refine lv_iconst (v := 0) hx hb dJ7_fill_53178_0 (by decide) ?_
  refine lv_istore_n (lv' := [(2, .int 0), (0, .ref a), (1, .int x)]) hx hb dJ7_fill_53178_1 rfl hl (by decide) rfl (fun ls hl => ?_)
  refine lv_aload_n hx hb dJ7_fill_53178_2 rfl (lv_at hl 1 rfl) ?_
  refine va_alen hx hb hK hP q0 t0 (hat _) ht (v := nI n) rfl dJ7_fill_53178_3 ?_
  refine lv_istore_n (lv' := [(3, .int (nI n)), (2, .int 0), (0, .ref a), (1, .int x)]) hx hb dJ7_fill_53178_4 rfl hl (by decide) rfl (fun ls hl => ?_)
  exact loop n 0 (by omega) _ _ ls (by rw [fillI_0]; exact hP) hS (lv_sub hl [2, 3, 1, 0] rfl)
set_option maxHeartbeats 4000000 in
theorem k_fillJ (l : Launch) (ω : St → va_W) (hω : wA ω) (tys : List (ClassId × FieldType)) (cA : ClassId) (q0 t0 k n a : Nat) (hat : ∀ σ : St, (ω σ)[q0]? = some (a, .inl (cA, n, .inr (.inl (σ.2.2 k))))) (hset : ∀ (σ : St) (g : Nat → Int64), (ω σ).set q0 (a, .inl (cA, n, .inr (.inl g))) = ω (sJ σ k g)) (ht : tys[t0]? = some (cA, .long)) (hn : n < 2 ^ 31) (x : Int64) (σ0 : St) : CtV l yJ7_fill_d0a16 (gws (.code yJ7_fill_d0a16 cJ7_fill_d0a16 5 none)) rm_fill tys ω [.ref a, .long x] σ0 (fillJ σ0 k n x) := by
  refine CtV.of (by decide) hω (Nat.le_of_ble_eq_true rfl) ?_
  generalize hav : ([.ref a, .long x] : List Value) = av
  intro p e s m below meth c D A hC ls hl hP hS
  obtain ⟨hx, hb, hr, hlocks, hml, hown, hts, hK, hN, hD, hA⟩ := id hC
  rw [← hav] at hl
  have hl : lv_has ls 5 [(0, .ref a), (1, .long x)] := hl
  have loop : ∀ (u i : Nat), i + u = n → ∀ (H : Heap) (locs : List Loc) (ls : Array Slot), va_P D vwCl (ω (fillJ σ0 k i x)) H → va_S A s.heap H locs → lv_has ls 5 [(0, .ref a), (1, .long x), (3, .int (nI i)), (4, .int (nI n))] → W p l e rm_fill s m av.toArray below meth c H locs 0 0 (QV below av.toArray s D A ω (fillJ σ0 k n x)) (F0 m 6 ls []) := by
    intro u
    induction u with
    | zero =>
      intro i hi H locs ls hP hS hl
      have e : i = n := by omega
      subst e
      refine lv_iload_n hx hb dJ7_fill_d0a16_6 rfl (lv_at hl 2 rfl) ?_
      refine lv_iload hx hb dJ7_fill_d0a16_7 (lv_at hl 3 rfl) ?_
      refine lv_icmp_ge (tgt := 22) hx hb dJ7_fill_d0a16_9 (by decide) (fun c1 => ?_) (fun c1 => ?_)
      · exact retV hx hb hr hlocks hP hS rfl dJ7_fill_d0a16_22
      · exact absurd (nI_le (Nat.le_refl _) hn) c1
    | succ u ih =>
      intro i hi H locs ls hP hS hl
      refine lv_iload_n hx hb dJ7_fill_d0a16_6 rfl (lv_at hl 2 rfl) ?_
      refine lv_iload hx hb dJ7_fill_d0a16_7 (lv_at hl 3 rfl) ?_
      refine lv_icmp_ge (tgt := 22) hx hb dJ7_fill_d0a16_9 (by decide) (fun c1 => ?_) (fun c1 => ?_)
      · exact absurd c1 (nI_ge (by omega) hn)
      · refine lv_aload_n hx hb dJ7_fill_d0a16_12 rfl (lv_at hl 0 rfl) ?_
        refine lv_iload_n hx hb dJ7_fill_d0a16_13 rfl (lv_at hl 2 rfl) ?_
        refine lv_lload_n hx hb dJ7_fill_d0a16_14 rfl (lv_at hl 1 rfl) ?_
        refine va_last hx hb hK hP (hD _) hS q0 t0 (hat _) ht (vp_in_nI (by omega) hn) dJ7_fill_d0a16_15 (fun H locs hP _ hS => ?_)
        rw [hset, nI_clamp (by omega), fillJ_s] at hP
        refine lv_iinc (v := nI (i + 1)) (lv' := [(3, .int (nI (i + 1))), (0, .ref a), (1, .long x), (4, .int (nI n))]) hx hb dJ7_fill_d0a16_16 hl (k := 2) rfl (nI_1 i) (by decide) rfl (fun ls hl => ?_)
        refine lv_goto (tgt := 6) hx hb dJ7_fill_d0a16_19 (by decide) ?_
        exact ih (i + 1) (by omega) H locs ls hP hS (lv_sub hl [1, 2, 0, 3] rfl)
  refine lv_iconst (v := 0) hx hb dJ7_fill_d0a16_0 (by decide) ?_
  refine lv_istore_n (lv' := [(3, .int 0), (0, .ref a), (1, .long x)]) hx hb dJ7_fill_d0a16_1 rfl hl (by decide) rfl (fun ls hl => ?_)
  refine lv_aload_n hx hb dJ7_fill_d0a16_2 rfl (lv_at hl 1 rfl) ?_
  refine va_alen hx hb hK hP q0 t0 (hat _) ht (v := nI n) rfl dJ7_fill_d0a16_3 ?_
  refine lv_istore (lv' := [(4, .int (nI n)), (3, .int 0), (0, .ref a), (1, .long x)]) hx hb dJ7_fill_d0a16_4 hl (by decide) rfl (fun ls hl => ?_)
  exact loop n 0 (by omega) _ _ ls (by rw [fillJ_0]; exact hP) hS (lv_sub hl [2, 3, 1, 0] rfl)
theorem k_fill_9 (l : Launch) (ad : Nat → Nat) (cI cJ cZ : ClassId) (σ : St) (x : Int32) : CtV l yJ7_fill_53178 (gws (.code yJ7_fill_53178 cJ7_fill_53178 4 none)) rm_fill (ty3 cI cJ cZ) (xw ad cI cJ) [.ref (ad 9), .int x] σ (fillI σ 0 8 x) := k_fillI l _ (xw_ok ad cI cJ) _ cI 9 0 0 8 (ad 9) (fun σ => xwa_9 ad cI cJ σ) (fun _ _ => rfl) rfl (by decide) x σ
theorem k_fill_10 (l : Launch) (ad : Nat → Nat) (cI cJ cZ : ClassId) (σ : St) (x : Int32) : CtV l yJ7_fill_53178 (gws (.code yJ7_fill_53178 cJ7_fill_53178 4 none)) rm_fill (ty3 cI cJ cZ) (xw ad cI cJ) [.ref (ad 10), .int x] σ (fillI σ 1 8 x) := k_fillI l _ (xw_ok ad cI cJ) _ cI 10 0 1 8 (ad 10) (fun σ => xwa_10 ad cI cJ σ) (fun _ _ => rfl) rfl (by decide) x σ
theorem k_fill_14 (l : Launch) (ad : Nat → Nat) (cI cJ cZ : ClassId) (σ : St) (x : Int32) : CtV l yJ7_fill_53178 (gws (.code yJ7_fill_53178 cJ7_fill_53178 4 none)) rm_fill (ty3 cI cJ cZ) (xw ad cI cJ) [.ref (ad 14), .int x] σ (fillI σ 5 8 x) := k_fillI l _ (xw_ok ad cI cJ) _ cI 14 0 5 8 (ad 14) (fun σ => xwa_14 ad cI cJ σ) (fun _ _ => rfl) rfl (by decide) x σ
theorem k_fill_25 (l : Launch) (ad : Nat → Nat) (cI cJ cZ : ClassId) (σ : St) (x : Int32) : CtV l yJ7_fill_53178 (gws (.code yJ7_fill_53178 cJ7_fill_53178 4 none)) rm_fill (ty3 cI cJ cZ) (xw ad cI cJ) [.ref (ad 25), .int x] σ (fillI σ 16 128 x) := k_fillI l _ (xw_ok ad cI cJ) _ cI 25 0 16 128 (ad 25) (fun σ => xwa_25 ad cI cJ σ) (fun _ _ => rfl) rfl (by decide) x σ
theorem k_fill_27 (l : Launch) (ad : Nat → Nat) (cI cJ cZ : ClassId) (σ : St) (x : Int64) : CtV l yJ7_fill_d0a16 (gws (.code yJ7_fill_d0a16 cJ7_fill_d0a16 5 none)) rm_fill (ty3 cI cJ cZ) (xw ad cI cJ) [.ref (ad 27), .long x] σ (fillJ σ 0 256 x) := k_fillJ l _ (xw_ok ad cI cJ) _ cJ 27 1 0 256 (ad 27) (fun σ => xwa_27 ad cI cJ σ) (fun _ _ => rfl) rfl (by decide) x σ
theorem k_fill_28 (l : Launch) (ad : Nat → Nat) (cI cJ cZ : ClassId) (σ : St) (x : Int64) : CtV l yJ7_fill_d0a16 (gws (.code yJ7_fill_d0a16 cJ7_fill_d0a16 5 none)) rm_fill (ty3 cI cJ cZ) (xw ad cI cJ) [.ref (ad 28), .long x] σ (fillJ σ 1 256 x) := k_fillJ l _ (xw_ok ad cI cJ) _ cJ 28 1 1 256 (ad 28) (fun σ => xwa_28 ad cI cJ σ) (fun _ _ => rfl) rfl (by decide) x σ
