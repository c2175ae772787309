/-! The law's loop -/
section LAWS
variable {L i : Nat} {M : Nat → Nat → Int32} {t : Nat → Nat} {z : Int32} {sp : Nat → Int32} {c : Nat} {xs : Nat → Int32}
def LW (L i : Nat) (xs : Nat → Int32) (c : Nat) (x : RES) : Prop := ∃ M' t z sp c', x = R 230 1587 [.ref 0, .ref 1, .ref 36, .int (nI i)] [] (SH L, M') ∧ IV M' t z sp c' ∧ c' ≤ c + 12 ∧ M' 0 = xs
theorem lw_ok {m1 m2 : Nat} {l1 l2 : List Value} {x : RES} (h0 : M 0 = xs) (ok : OK L M c (fun M => R m1 0 l1 [] (SH L, M)) (fun M => R m2 0 l2 [] (SH L, M))) (hx : ∀ r M1 M2, R m1 0 l1 [] (SH L, M) = some (some (.int r), (SH L, M1)) → M1 0 = xs → R m2 0 l2 [] (SH L, M1) = some (some (.int r), (SH L, M2)) → x = R 230 1587 [.ref 0, .ref 1, .ref 36, .int (nI i)] [] (SH L, M2)) : LW L i xs c x := by
  obtain ⟨r, M1, M2, e1, e2, t', z', sp', c', h', hc⟩ := ok
  have a1 : M1 0 = xs := (R_0 e1).trans h0
  exact ⟨M2, t', z', sp', c', hx r M1 M2 e1 a1 e2, h', hc, (R_0 e2).trans a1⟩
theorem l_part (h : IV M t z sp c) (hcb : c < 49000000) (h0 : M 0 = xs) (hL : L ≤ 3072) (hi : i + 6 ≤ L) : LW L i xs c (R 230 244 [.ref 0, .ref 1, .ref 36, .int (nI i)] [] (SH L, M)) := lw_ok h0 (c_part h hcb (xs (i + 1)) (xs (i + 2))) (fun r M1 M2 e1 a1 e2 => by simp (disch := omega) only [r230_244, r230_245, r230_246, r230_247, r230_248, r230_249, r230_250, r230_251, r230_252, r230_253, r230_254, r230_255, r230_258, r230_259, r230_260, r230_261, r230_262, r230_263, r230_264, r230_265, r230_266, r230_267, r230_268, r230_269, r230_272, r230_275, r230_276_0, r230_276_1, nI_add, h0, a1, e1, e2, Option.bind_some, vtl_some, vtl_none, eq_self, if_true])
theorem l_of (h : IV M t z sp c) (hcb : c < 49000000) (h0 : M 0 = xs) (hL : L ≤ 3072) (hi : i + 6 ≤ L) : LW L i xs c (R 230 277 [.ref 0, .ref 1, .ref 36, .int (nI i)] [] (SH L, M)) := lw_ok h0 (c_of h (xs (i + 1)) (xs (i + 2))) (fun r M1 M2 e1 a1 e2 => by simp (disch := omega) only [r230_277, r230_278, r230_279, r230_280, r230_281, r230_282, r230_283, r230_284, r230_285, r230_286, r230_287, r230_288, r230_291, r230_292, r230_293, r230_294, r230_295, r230_296, r230_297, r230_298, r230_299, r230_300, r230_301, r230_302, r230_305, r230_308, r230_309_0, r230_309_1, nI_add, h0, a1, e1, e2, Option.bind_some, vtl_some, vtl_none, eq_self, if_true])
theorem l_change (h : IV M t z sp c) (hcb : c < 49000000) (h0 : M 0 = xs) (hL : L ≤ 3072) (hi : i + 6 ≤ L) : LW L i xs c (R 230 310 [.ref 0, .ref 1, .ref 36, .int (nI i)] [] (SH L, M)) := lw_ok h0 (c_change h hcb (xs (i + 1)) (xs (i + 2)) (xs (i + 3))) (fun r M1 M2 e1 a1 e2 => by simp (disch := omega) only [r230_310, r230_311, r230_312, r230_313, r230_314, r230_315, r230_316, r230_317, r230_318, r230_319, r230_320, r230_321, r230_322, r230_323, r230_324, r230_325, r230_326, r230_329, r230_330, r230_331, r230_332, r230_333, r230_334, r230_335, r230_336, r230_337, r230_338, r230_339, r230_340, r230_341, r230_342, r230_343, r230_344, r230_345, r230_348, r230_351, r230_352_0, r230_352_1, nI_add, h0, a1, e1, e2, Option.bind_some, vtl_some, vtl_none, eq_self, if_true])
theorem l_thing (h : IV M t z sp c) (hcb : c < 49000000) (h0 : M 0 = xs) (hL : L ≤ 3072) (hi : i + 6 ≤ L) : LW L i xs c (R 230 353 [.ref 0, .ref 1, .ref 36, .int (nI i)] [] (SH L, M)) := lw_ok h0 (c_thing h (xs (i + 1))) (fun r M1 M2 e1 a1 e2 => by simp (disch := omega) only [r230_353, r230_354, r230_355, r230_356, r230_357, r230_358, r230_359, r230_362, r230_363, r230_364, r230_365, r230_366, r230_367, r230_368, r230_371, r230_374, r230_375_0, r230_375_1, nI_add, h0, a1, e1, e2, Option.bind_some, vtl_some, vtl_none, eq_self, if_true])
theorem l_knows (h : IV M t z sp c) (hcb : c < 49000000) (h0 : M 0 = xs) (hL : L ≤ 3072) (hi : i + 6 ≤ L) : LW L i xs c (R 230 376 [.ref 0, .ref 1, .ref 36, .int (nI i)] [] (SH L, M)) := by
  by_cases q : xs (i + 2) = 0
  · have ok := c_knows (L := L) h hcb (xs (i + 1)) false
    simp only [Bool.false_eq_true, if_false] at ok
    exact lw_ok h0 ok (fun r M1 M2 e1 a1 e2 => by simp (disch := omega) only [r230_376, r230_377, r230_378, r230_379, r230_380, r230_381, r230_382, r230_383, r230_384, r230_385, r230_386, r230_387, r230_390, r230_391, r230_394, r230_395, r230_398, r230_399, r230_400, r230_401, r230_402, r230_403, r230_404, r230_405, r230_406, r230_407, r230_408, r230_409, r230_412, r230_413, r230_416, r230_417, r230_420, r230_423, r230_424_0, r230_424_1, nI_add, h0, a1, e1, e2, Option.bind_some, vtl_some, vtl_none, eq_self, if_true, if_pos q])
  · have ok := c_knows (L := L) h hcb (xs (i + 1)) true
    simp only [if_true] at ok
    exact lw_ok h0 ok (fun r M1 M2 e1 a1 e2 => by simp (disch := omega) only [r230_376, r230_377, r230_378, r230_379, r230_380, r230_381, r230_382, r230_383, r230_384, r230_385, r230_386, r230_387, r230_390, r230_391, r230_394, r230_395, r230_398, r230_399, r230_400, r230_401, r230_402, r230_403, r230_404, r230_405, r230_406, r230_407, r230_408, r230_409, r230_412, r230_413, r230_416, r230_417, r230_420, r230_423, r230_424_0, r230_424_1, nI_add, h0, a1, e1, e2, Option.bind_some, vtl_some, vtl_none, eq_self, if_true, if_neg q])
theorem l_heirs (h : IV M t z sp c) (hcb : c < 49000000) (h0 : M 0 = xs) (hL : L ≤ 3072) (hi : i + 6 ≤ L) : LW L i xs c (R 230 425 [.ref 0, .ref 1, .ref 36, .int (nI i)] [] (SH L, M)) := lw_ok h0 (c_heirs h hcb (xs (i + 1))) (fun r M1 M2 e1 a1 e2 => by simp (disch := omega) only [r230_425, r230_426, r230_427, r230_428, r230_429, r230_430, r230_431, r230_434, r230_435, r230_436, r230_437, r230_438, r230_439, r230_440, r230_443, r230_446, r230_447_0, r230_447_1, nI_add, h0, a1, e1, e2, Option.bind_some, vtl_some, vtl_none, eq_self, if_true])
theorem l_turn (h : IV M t z sp c) (hcb : c < 49000000) (h0 : M 0 = xs) (hL : L ≤ 3072) (hi : i + 6 ≤ L) : LW L i xs c (R 230 448 [.ref 0, .ref 1, .ref 36, .int (nI i)] [] (SH L, M)) := lw_ok h0 (c_turn h hcb (xs (i + 1)) (xs (i + 2))) (fun r M1 M2 e1 a1 e2 => by simp (disch := omega) only [r230_448, r230_449, r230_450, r230_451, r230_452, r230_453, r230_454, r230_455, r230_456, r230_457, r230_458, r230_459, r230_462, r230_463, r230_464, r230_465, r230_466, r230_467, r230_468, r230_469, r230_470, r230_471, r230_472, r230_473, r230_476, r230_479, r230_480_0, r230_480_1, nI_add, h0, a1, e1, e2, Option.bind_some, vtl_some, vtl_none, eq_self, if_true])
theorem l_ith (h : IV M t z sp c) (hcb : c < 49000000) (h0 : M 0 = xs) (hL : L ≤ 3072) (hi : i + 6 ≤ L) : LW L i xs c (R 230 481 [.ref 0, .ref 1, .ref 36, .int (nI i)] [] (SH L, M)) := lw_ok h0 (c_ith h (xs (i + 1))) (fun r M1 M2 e1 a1 e2 => by simp (disch := omega) only [r230_481, r230_482, r230_483, r230_484, r230_485, r230_486, r230_487, r230_490, r230_491, r230_492, r230_493, r230_494, r230_495, r230_496, r230_499, r230_502, r230_503_0, r230_503_1, nI_add, h0, a1, e1, e2, Option.bind_some, vtl_some, vtl_none, eq_self, if_true])
theorem l_brings (h : IV M t z sp c) (hcb : c < 49000000) (h0 : M 0 = xs) (hL : L ≤ 3072) (hi : i + 6 ≤ L) : LW L i xs c (R 230 504 [.ref 0, .ref 1, .ref 36, .int (nI i)] [] (SH L, M)) := lw_ok h0 (c_brings h (xs (i + 1)) (xs (i + 2)) (xs (i + 3))) (fun r M1 M2 e1 a1 e2 => by simp (disch := omega) only [r230_504, r230_505, r230_506, r230_507, r230_508, r230_509, r230_510, r230_511, r230_512, r230_513, r230_514, r230_515, r230_516, r230_517, r230_518, r230_519, r230_520, r230_523, r230_524, r230_525, r230_526, r230_527, r230_528, r230_529, r230_530, r230_531, r230_532, r230_533, r230_534, r230_535, r230_536, r230_537, r230_538, r230_539, r230_542, r230_545, r230_546_0, r230_546_1, nI_add, h0, a1, e1, e2, Option.bind_some, vtl_some, vtl_none, eq_self, if_true])
theorem l_value (h : IV M t z sp c) (hcb : c < 49000000) (h0 : M 0 = xs) (hL : L ≤ 3072) (hi : i + 6 ≤ L) : LW L i xs c (R 230 547 [.ref 0, .ref 1, .ref 36, .int (nI i)] [] (SH L, M)) := lw_ok h0 (c_value h (xs (i + 1)) (xs (i + 2))) (fun r M1 M2 e1 a1 e2 => by simp (disch := omega) only [r230_547, r230_548, r230_549, r230_550, r230_551, r230_552, r230_553, r230_554, r230_555, r230_556, r230_557, r230_558, r230_561, r230_562, r230_563, r230_564, r230_565, r230_566, r230_567, r230_568, r230_569, r230_570, r230_571, r230_572, r230_575, r230_578, r230_579_0, r230_579_1, nI_add, h0, a1, e1, e2, Option.bind_some, vtl_some, vtl_none, eq_self, if_true])
theorem l_dearest (h : IV M t z sp c) (hcb : c < 49000000) (h0 : M 0 = xs) (hL : L ≤ 3072) (hi : i + 6 ≤ L) : LW L i xs c (R 230 580 [.ref 0, .ref 1, .ref 36, .int (nI i)] [] (SH L, M)) := lw_ok h0 (c_dearest h (xs (i + 1))) (fun r M1 M2 e1 a1 e2 => by simp (disch := omega) only [r230_580, r230_581, r230_582, r230_583, r230_584, r230_585, r230_586, r230_589, r230_590, r230_591, r230_592, r230_593, r230_594, r230_595, r230_598, r230_601, r230_602_0, r230_602_1, nI_add, h0, a1, e1, e2, Option.bind_some, vtl_some, vtl_none, eq_self, if_true])
theorem l_best (h : IV M t z sp c) (hcb : c < 49000000) (h0 : M 0 = xs) (hL : L ≤ 3072) (hi : i + 6 ≤ L) : LW L i xs c (R 230 603 [.ref 0, .ref 1, .ref 36, .int (nI i)] [] (SH L, M)) := lw_ok h0 (c_best h (xs (i + 1)) (xs (i + 2))) (fun r M1 M2 e1 a1 e2 => by simp (disch := omega) only [r230_603, r230_604, r230_605, r230_606, r230_607, r230_608, r230_609, r230_610, r230_611, r230_612, r230_613, r230_614, r230_617, r230_618, r230_619, r230_620, r230_621, r230_622, r230_623, r230_624, r230_625, r230_626, r230_627, r230_628, r230_631, r230_634, r230_635_0, r230_635_1, nI_add, h0, a1, e1, e2, Option.bind_some, vtl_some, vtl_none, eq_self, if_true])
theorem l_share (h : IV M t z sp c) (hcb : c < 49000000) (h0 : M 0 = xs) (hL : L ≤ 3072) (hi : i + 6 ≤ L) : LW L i xs c (R 230 636 [.ref 0, .ref 1, .ref 36, .int (nI i)] [] (SH L, M)) := lw_ok h0 (c_share h (xs (i + 1)) (xs (i + 2))) (fun r M1 M2 e1 a1 e2 => by simp (disch := omega) only [r230_636, r230_637, r230_638, r230_639, r230_640, r230_641, r230_642, r230_643, r230_644, r230_645, r230_646, r230_647, r230_650, r230_651, r230_652, r230_653, r230_654, r230_655, r230_656, r230_657, r230_658, r230_659, r230_660, r230_661, r230_664, r230_667, r230_668_0, r230_668_1, nI_add, h0, a1, e1, e2, Option.bind_some, vtl_some, vtl_none, eq_self, if_true])
theorem l_gets (h : IV M t z sp c) (hcb : c < 49000000) (h0 : M 0 = xs) (hL : L ≤ 3072) (hi : i + 6 ≤ L) : LW L i xs c (R 230 669 [.ref 0, .ref 1, .ref 36, .int (nI i)] [] (SH L, M)) := lw_ok h0 (c_gets h (xs (i + 1)) (xs (i + 2))) (fun r M1 M2 e1 a1 e2 => by simp (disch := omega) only [r230_669, r230_670, r230_671, r230_672, r230_673, r230_674, r230_675, r230_676, r230_677, r230_678, r230_679, r230_680, r230_683, r230_684, r230_685, r230_686, r230_687, r230_688, r230_689, r230_690, r230_691, r230_692, r230_693, r230_694, r230_697, r230_700, r230_701_0, r230_701_1, nI_add, h0, a1, e1, e2, Option.bind_some, vtl_some, vtl_none, eq_self, if_true])
theorem l_cut (h : IV M t z sp c) (hcb : c < 49000000) (h0 : M 0 = xs) (hL : L ≤ 3072) (hi : i + 6 ≤ L) : LW L i xs c (R 230 702 [.ref 0, .ref 1, .ref 36, .int (nI i)] [] (SH L, M)) := lw_ok h0 (c_cut h (xs (i + 1))) (fun r M1 M2 e1 a1 e2 => by simp (disch := omega) only [r230_702, r230_703, r230_704, r230_705, r230_706, r230_707, r230_708, r230_711, r230_712, r230_713, r230_714, r230_715, r230_716, r230_717, r230_720, r230_723, r230_724_0, r230_724_1, nI_add, h0, a1, e1, e2, Option.bind_some, vtl_some, vtl_none, eq_self, if_true])
theorem l_takes (h : IV M t z sp c) (hcb : c < 49000000) (h0 : M 0 = xs) (hL : L ≤ 3072) (hi : i + 6 ≤ L) : LW L i xs c (R 230 725 [.ref 0, .ref 1, .ref 36, .int (nI i)] [] (SH L, M)) := lw_ok h0 (c_takes h (xs (i + 1)) (xs (i + 2))) (fun r M1 M2 e1 a1 e2 => by simp (disch := omega) only [r230_725, r230_726, r230_727, r230_728, r230_729, r230_730, r230_731, r230_732, r230_733, r230_734, r230_735, r230_736, r230_739, r230_740, r230_741, r230_742, r230_743, r230_744, r230_745, r230_746, r230_747, r230_748, r230_749, r230_750, r230_753, r230_756, r230_757_0, r230_757_1, nI_add, h0, a1, e1, e2, Option.bind_some, vtl_some, vtl_none, eq_self, if_true])
theorem l_left (h : IV M t z sp c) (hcb : c < 49000000) (h0 : M 0 = xs) (hL : L ≤ 3072) (hi : i + 6 ≤ L) : LW L i xs c (R 230 758 [.ref 0, .ref 1, .ref 36, .int (nI i)] [] (SH L, M)) := lw_ok h0 (c_left h (xs (i + 1)) (xs (i + 2))) (fun r M1 M2 e1 a1 e2 => by simp (disch := omega) only [r230_758, r230_759, r230_760, r230_761, r230_762, r230_763, r230_764, r230_765, r230_766, r230_767, r230_768, r230_769, r230_772, r230_773, r230_774, r230_775, r230_776, r230_777, r230_778, r230_779, r230_780, r230_781, r230_782, r230_783, r230_786, r230_789, r230_790_0, r230_790_1, nI_add, h0, a1, e1, e2, Option.bind_some, vtl_some, vtl_none, eq_self, if_true])
theorem l_envy (h : IV M t z sp c) (hcb : c < 49000000) (h0 : M 0 = xs) (hL : L ≤ 3072) (hi : i + 6 ≤ L) : LW L i xs c (R 230 791 [.ref 0, .ref 1, .ref 36, .int (nI i)] [] (SH L, M)) := lw_ok h0 (c_envy h (xs (i + 1))) (fun r M1 M2 e1 a1 e2 => by simp (disch := omega) only [r230_791, r230_792, r230_793, r230_794, r230_795, r230_796, r230_797, r230_800, r230_801, r230_802, r230_803, r230_804, r230_805, r230_806, r230_809, r230_812, r230_813_0, r230_813_1, nI_add, h0, a1, e1, e2, Option.bind_some, vtl_some, vtl_none, eq_self, if_true])
theorem l_wholes (h : IV M t z sp c) (hcb : c < 49000000) (h0 : M 0 = xs) (hL : L ≤ 3072) (hi : i + 6 ≤ L) : LW L i xs c (R 230 814 [.ref 0, .ref 1, .ref 36, .int (nI i)] [] (SH L, M)) := lw_ok h0 (c_wholes h (xs (i + 1))) (fun r M1 M2 e1 a1 e2 => by simp (disch := omega) only [r230_814, r230_815, r230_816, r230_817, r230_818, r230_819, r230_820, r230_823, r230_824, r230_825, r230_826, r230_827, r230_828, r230_829, r230_832, r230_835, r230_836_0, r230_836_1, nI_add, h0, a1, e1, e2, Option.bind_some, vtl_some, vtl_none, eq_self, if_true])
theorem l_lost (h : IV M t z sp c) (hcb : c < 49000000) (h0 : M 0 = xs) (hL : L ≤ 3072) (hi : i + 6 ≤ L) : LW L i xs c (R 230 837 [.ref 0, .ref 1, .ref 36, .int (nI i)] [] (SH L, M)) := lw_ok h0 (c_lost h (xs (i + 1))) (fun r M1 M2 e1 a1 e2 => by simp (disch := omega) only [r230_837, r230_838, r230_839, r230_840, r230_841, r230_842, r230_843, r230_846, r230_847, r230_848, r230_849, r230_850, r230_851, r230_852, r230_855, r230_858, r230_859_0, r230_859_1, nI_add, h0, a1, e1, e2, Option.bind_some, vtl_some, vtl_none, eq_self, if_true])
theorem l_seat (h : IV M t z sp c) (hcb : c < 49000000) (h0 : M 0 = xs) (hL : L ≤ 3072) (hi : i + 6 ≤ L) : LW L i xs c (R 230 860 [.ref 0, .ref 1, .ref 36, .int (nI i)] [] (SH L, M)) := lw_ok h0 (c_seat h (xs (i + 1))) (fun r M1 M2 e1 a1 e2 => by simp (disch := omega) only [r230_860, r230_861, r230_862, r230_863, r230_864, r230_865, r230_866, r230_869, r230_870, r230_871, r230_872, r230_873, r230_874, r230_875, r230_878, r230_881, r230_882_0, r230_882_1, nI_add, h0, a1, e1, e2, Option.bind_some, vtl_some, vtl_none, eq_self, if_true])
theorem l_fewer (h : IV M t z sp c) (hcb : c < 49000000) (h0 : M 0 = xs) (hL : L ≤ 3072) (hi : i + 6 ≤ L) : LW L i xs c (R 230 883 [.ref 0, .ref 1, .ref 36, .int (nI i)] [] (SH L, M)) := lw_ok h0 (c_fewer h (xs (i + 1))) (fun r M1 M2 e1 a1 e2 => by simp (disch := omega) only [r230_883, r230_884, r230_885, r230_886, r230_887, r230_888, r230_889, r230_892, r230_893, r230_894, r230_895, r230_896, r230_897, r230_898, r230_901, r230_904, r230_905_0, r230_905_1, nI_add, h0, a1, e1, e2, Option.bind_some, vtl_some, vtl_none, eq_self, if_true])
theorem l_fair (h : IV M t z sp c) (hcb : c < 49000000) (h0 : M 0 = xs) (hL : L ≤ 3072) (hi : i + 6 ≤ L) : LW L i xs c (R 230 906 [.ref 0, .ref 1, .ref 36, .int (nI i)] [] (SH L, M)) := lw_ok h0 (c_fair h ) (fun r M1 M2 e1 a1 e2 => by simp (disch := omega) only [r230_906, r230_907, r230_910, r230_911, r230_914, r230_917, r230_918_0, r230_918_1, nI_add, h0, a1, e1, e2, Option.bind_some, vtl_some, vtl_none, eq_self, if_true])
theorem l_common (h : IV M t z sp c) (hcb : c < 49000000) (h0 : M 0 = xs) (hL : L ≤ 3072) (hi : i + 6 ≤ L) : LW L i xs c (R 230 919 [.ref 0, .ref 1, .ref 36, .int (nI i)] [] (SH L, M)) := lw_ok h0 (c_common h ) (fun r M1 M2 e1 a1 e2 => by simp (disch := omega) only [r230_919, r230_920, r230_923, r230_924, r230_927, r230_930, r230_931_0, r230_931_1, nI_add, h0, a1, e1, e2, Option.bind_some, vtl_some, vtl_none, eq_self, if_true])
theorem l_deal (h : IV M t z sp c) (hcb : c < 49000000) (h0 : M 0 = xs) (hL : L ≤ 3072) (hi : i + 6 ≤ L) : LW L i xs c (R 230 932 [.ref 0, .ref 1, .ref 36, .int (nI i)] [] (SH L, M)) := lw_ok h0 (c_deal h ) (fun r M1 M2 e1 a1 e2 => by simp (disch := omega) only [r230_932, r230_933, r230_936, r230_937, r230_940, r230_943, r230_944_0, r230_944_1, nI_add, h0, a1, e1, e2, Option.bind_some, vtl_some, vtl_none, eq_self, if_true])
theorem l_gift (h : IV M t z sp c) (hcb : c < 49000000) (h0 : M 0 = xs) (hL : L ≤ 3072) (hi : i + 6 ≤ L) : LW L i xs c (R 230 945 [.ref 0, .ref 1, .ref 36, .int (nI i)] [] (SH L, M)) := lw_ok h0 (c_gift h ) (fun r M1 M2 e1 a1 e2 => by simp (disch := omega) only [r230_945, r230_946, r230_949, r230_950, r230_953, r230_956, r230_957_0, r230_957_1, nI_add, h0, a1, e1, e2, Option.bind_some, vtl_some, vtl_none, eq_self, if_true])
theorem l_bring (h : IV M t z sp c) (hcb : c < 49000000) (h0 : M 0 = xs) (hL : L ≤ 3072) (hi : i + 6 ≤ L) : LW L i xs c (R 230 958 [.ref 0, .ref 1, .ref 36, .int (nI i)] [] (SH L, M)) := lw_ok h0 (c_bring h (xs (i + 1))) (fun r M1 M2 e1 a1 e2 => by simp (disch := omega) only [r230_958, r230_959, r230_960, r230_961, r230_962, r230_963, r230_964, r230_967, r230_968, r230_969, r230_970, r230_971, r230_972, r230_973, r230_976, r230_979, r230_980_0, r230_980_1, nI_add, h0, a1, e1, e2, Option.bind_some, vtl_some, vtl_none, eq_self, if_true])
theorem l_joins (h : IV M t z sp c) (hcb : c < 49000000) (h0 : M 0 = xs) (hL : L ≤ 3072) (hi : i + 6 ≤ L) : LW L i xs c (R 230 981 [.ref 0, .ref 1, .ref 36, .int (nI i)] [] (SH L, M)) := lw_ok h0 (c_joins h (xs (i + 1)) (xs (i + 2))) (fun r M1 M2 e1 a1 e2 => by simp (disch := omega) only [r230_981, r230_982, r230_983, r230_984, r230_985, r230_986, r230_987, r230_988, r230_989, r230_990, r230_991, r230_992, r230_995, r230_996, r230_997, r230_998, r230_999, r230_1000, r230_1001, r230_1002, r230_1003, r230_1004, r230_1005, r230_1006, r230_1009, r230_1012, r230_1013_0, r230_1013_1, nI_add, h0, a1, e1, e2, Option.bind_some, vtl_some, vtl_none, eq_self, if_true])
theorem l_rows (h : IV M t z sp c) (hcb : c < 49000000) (h0 : M 0 = xs) (hL : L ≤ 3072) (hi : i + 6 ≤ L) : LW L i xs c (R 230 1014 [.ref 0, .ref 1, .ref 36, .int (nI i)] [] (SH L, M)) := lw_ok h0 (c_rows h (xs (i + 1))) (fun r M1 M2 e1 a1 e2 => by simp (disch := omega) only [r230_1014, r230_1015, r230_1016, r230_1017, r230_1018, r230_1019, r230_1020, r230_1023, r230_1024, r230_1025, r230_1026, r230_1027, r230_1028, r230_1029, r230_1032, r230_1035, r230_1036_0, r230_1036_1, nI_add, h0, a1, e1, e2, Option.bind_some, vtl_some, vtl_none, eq_self, if_true])
theorem l_row (h : IV M t z sp c) (hcb : c < 49000000) (h0 : M 0 = xs) (hL : L ≤ 3072) (hi : i + 6 ≤ L) : LW L i xs c (R 230 1037 [.ref 0, .ref 1, .ref 36, .int (nI i)] [] (SH L, M)) := lw_ok h0 (c_row h (xs (i + 1)) (xs (i + 2))) (fun r M1 M2 e1 a1 e2 => by simp (disch := omega) only [r230_1037, r230_1038, r230_1039, r230_1040, r230_1041, r230_1042, r230_1043, r230_1044, r230_1045, r230_1046, r230_1047, r230_1048, r230_1051, r230_1052, r230_1053, r230_1054, r230_1055, r230_1056, r230_1057, r230_1058, r230_1059, r230_1060, r230_1061, r230_1062, r230_1065, r230_1068, r230_1069_0, r230_1069_1, nI_add, h0, a1, e1, e2, Option.bind_some, vtl_some, vtl_none, eq_self, if_true])
theorem l_years (h : IV M t z sp c) (hcb : c < 49000000) (h0 : M 0 = xs) (hL : L ≤ 3072) (hi : i + 6 ≤ L) : LW L i xs c (R 230 1070 [.ref 0, .ref 1, .ref 36, .int (nI i)] [] (SH L, M)) := lw_ok h0 (c_years h hcb (xs (i + 1))) (fun r M1 M2 e1 a1 e2 => by simp (disch := omega) only [r230_1070, r230_1071, r230_1072, r230_1073, r230_1074, r230_1075, r230_1076, r230_1079, r230_1080, r230_1081, r230_1082, r230_1083, r230_1084, r230_1085, r230_1088, r230_1091, r230_1092_0, r230_1092_1, nI_add, h0, a1, e1, e2, Option.bind_some, vtl_some, vtl_none, eq_self, if_true])
theorem l_ahead (h : IV M t z sp c) (hcb : c < 49000000) (h0 : M 0 = xs) (hL : L ≤ 3072) (hi : i + 6 ≤ L) : LW L i xs c (R 230 1093 [.ref 0, .ref 1, .ref 36, .int (nI i)] [] (SH L, M)) := lw_ok h0 (c_ahead h hcb (xs (i + 1)) (xs (i + 2))) (fun r M1 M2 e1 a1 e2 => by simp (disch := omega) only [r230_1093, r230_1094, r230_1095, r230_1096, r230_1097, r230_1098, r230_1099, r230_1100, r230_1101, r230_1102, r230_1103, r230_1104, r230_1107, r230_1108, r230_1109, r230_1110, r230_1111, r230_1112, r230_1113, r230_1114, r230_1115, r230_1116, r230_1117, r230_1118, r230_1121, r230_1124, r230_1125_0, r230_1125_1, nI_add, h0, a1, e1, e2, Option.bind_some, vtl_some, vtl_none, eq_self, if_true])
theorem l_gossip (h : IV M t z sp c) (hcb : c < 49000000) (h0 : M 0 = xs) (hL : L ≤ 3072) (hi : i + 6 ≤ L) : LW L i xs c (R 230 1126 [.ref 0, .ref 1, .ref 36, .int (nI i)] [] (SH L, M)) := lw_ok h0 (c_gossip h hcb (xs (i + 1))) (fun r M1 M2 e1 a1 e2 => by simp (disch := omega) only [r230_1126, r230_1127, r230_1128, r230_1129, r230_1130, r230_1131, r230_1132, r230_1135, r230_1136, r230_1137, r230_1138, r230_1139, r230_1140, r230_1141, r230_1144, r230_1147, r230_1148_0, r230_1148_1, nI_add, h0, a1, e1, e2, Option.bind_some, vtl_some, vtl_none, eq_self, if_true])
theorem l_seed (h : IV M t z sp c) (hcb : c < 49000000) (h0 : M 0 = xs) (hL : L ≤ 3072) (hi : i + 6 ≤ L) : LW L i xs c (R 230 1149 [.ref 0, .ref 1, .ref 36, .int (nI i)] [] (SH L, M)) := lw_ok h0 (c_seed h hcb (xs (i + 1))) (fun r M1 M2 e1 a1 e2 => by simp (disch := omega) only [r230_1149, r230_1150, r230_1151, r230_1152, r230_1153, r230_1154, r230_1155, r230_1158, r230_1159, r230_1160, r230_1161, r230_1162, r230_1163, r230_1164, r230_1167, r230_1170, r230_1171_0, r230_1171_1, nI_add, h0, a1, e1, e2, Option.bind_some, vtl_some, vtl_none, eq_self, if_true])
theorem l_feed (h : IV M t z sp c) (hcb : c < 49000000) (h0 : M 0 = xs) (hL : L ≤ 3072) (hi : i + 6 ≤ L) : LW L i xs c (R 230 1172 [.ref 0, .ref 1, .ref 36, .int (nI i)] [] (SH L, M)) := lw_ok h0 (c_feed h (xs (i + 1)) (xs (i + 2))) (fun r M1 M2 e1 a1 e2 => by simp (disch := omega) only [r230_1172, r230_1173, r230_1174, r230_1175, r230_1176, r230_1177, r230_1178, r230_1179, r230_1180, r230_1181, r230_1182, r230_1183, r230_1186, r230_1187, r230_1188, r230_1189, r230_1190, r230_1191, r230_1192, r230_1193, r230_1194, r230_1195, r230_1196, r230_1197, r230_1200, r230_1203, r230_1204_0, r230_1204_1, nI_add, h0, a1, e1, e2, Option.bind_some, vtl_some, vtl_none, eq_self, if_true])
theorem l_wipe (h : IV M t z sp c) (hcb : c < 49000000) (h0 : M 0 = xs) (hL : L ≤ 3072) (hi : i + 6 ≤ L) : LW L i xs c (R 230 1205 [.ref 0, .ref 1, .ref 36, .int (nI i)] [] (SH L, M)) := lw_ok h0 (c_wipe h ) (fun r M1 M2 e1 a1 e2 => by simp (disch := omega) only [r230_1205, r230_1206, r230_1209, r230_1210, r230_1213, r230_1216, r230_1217_0, r230_1217_1, nI_add, h0, a1, e1, e2, Option.bind_some, vtl_some, vtl_none, eq_self, if_true])
theorem l_text (h : IV M t z sp c) (hcb : c < 49000000) (h0 : M 0 = xs) (hL : L ≤ 3072) (hi : i + 6 ≤ L) : LW L i xs c (R 230 1218 [.ref 0, .ref 1, .ref 36, .int (nI i)] [] (SH L, M)) := lw_ok h0 (c_text h hcb ) (fun r M1 M2 e1 a1 e2 => by simp (disch := omega) only [r230_1218, r230_1219, r230_1222, r230_1223, r230_1226, r230_1229, r230_1230_0, r230_1230_1, nI_add, h0, a1, e1, e2, Option.bind_some, vtl_some, vtl_none, eq_self, if_true])
theorem l_hold (h : IV M t z sp c) (hcb : c < 49000000) (h0 : M 0 = xs) (hL : L ≤ 3072) (hi : i + 6 ≤ L) : LW L i xs c (R 230 1231 [.ref 0, .ref 1, .ref 36, .int (nI i)] [] (SH L, M)) := lw_ok h0 (c_hold h hcb (xs (i + 1)) (xs (i + 2))) (fun r M1 M2 e1 a1 e2 => by simp (disch := omega) only [r230_1231, r230_1232, r230_1233, r230_1234, r230_1235, r230_1236, r230_1237, r230_1238, r230_1239, r230_1240, r230_1241, r230_1242, r230_1245, r230_1246, r230_1247, r230_1248, r230_1249, r230_1250, r230_1251, r230_1252, r230_1253, r230_1254, r230_1255, r230_1256, r230_1259, r230_1262, r230_1263_0, r230_1263_1, nI_add, h0, a1, e1, e2, Option.bind_some, vtl_some, vtl_none, eq_self, if_true])
theorem l_as (h : IV M t z sp c) (hcb : c < 49000000) (h0 : M 0 = xs) (hL : L ≤ 3072) (hi : i + 6 ≤ L) : LW L i xs c (R 230 1264 [.ref 0, .ref 1, .ref 36, .int (nI i)] [] (SH L, M)) := lw_ok h0 (c_as h (xs (i + 1)) (xs (i + 2))) (fun r M1 M2 e1 a1 e2 => by simp (disch := omega) only [r230_1264, r230_1265, r230_1266, r230_1267, r230_1268, r230_1269, r230_1270, r230_1271, r230_1272, r230_1273, r230_1274, r230_1275, r230_1278, r230_1279, r230_1280, r230_1281, r230_1282, r230_1283, r230_1284, r230_1285, r230_1286, r230_1287, r230_1288, r230_1289, r230_1292, r230_1295, r230_1296_0, r230_1296_1, nI_add, h0, a1, e1, e2, Option.bind_some, vtl_some, vtl_none, eq_self, if_true])
theorem l_sheet (h : IV M t z sp c) (hcb : c < 49000000) (h0 : M 0 = xs) (hL : L ≤ 3072) (hi : i + 6 ≤ L) : LW L i xs c (R 230 1297 [.ref 0, .ref 1, .ref 36, .int (nI i)] [] (SH L, M)) := lw_ok h0 (c_sheet h (xs (i + 1)) (xs (i + 2)) (xs (i + 3))) (fun r M1 M2 e1 a1 e2 => by simp (disch := omega) only [r230_1297, r230_1298, r230_1299, r230_1300, r230_1301, r230_1302, r230_1303, r230_1304, r230_1305, r230_1306, r230_1307, r230_1308, r230_1309, r230_1310, r230_1311, r230_1312, r230_1313, r230_1316, r230_1317, r230_1318, r230_1319, r230_1320, r230_1321, r230_1322, r230_1323, r230_1324, r230_1325, r230_1326, r230_1327, r230_1328, r230_1329, r230_1330, r230_1331, r230_1332, r230_1335, r230_1338, r230_1339_0, r230_1339_1, nI_add, h0, a1, e1, e2, Option.bind_some, vtl_some, vtl_none, eq_self, if_true])
theorem l_write (h : IV M t z sp c) (hcb : c < 49000000) (h0 : M 0 = xs) (hL : L ≤ 3072) (hi : i + 6 ≤ L) : LW L i xs c (R 230 1340 [.ref 0, .ref 1, .ref 36, .int (nI i)] [] (SH L, M)) := lw_ok h0 (c_write h (xs (i + 1)) (xs (i + 2)) (xs (i + 3))) (fun r M1 M2 e1 a1 e2 => by simp (disch := omega) only [r230_1340, r230_1341, r230_1342, r230_1343, r230_1344, r230_1345, r230_1346, r230_1347, r230_1348, r230_1349, r230_1350, r230_1351, r230_1352, r230_1353, r230_1354, r230_1355, r230_1356, r230_1359, r230_1360, r230_1361, r230_1362, r230_1363, r230_1364, r230_1365, r230_1366, r230_1367, r230_1368, r230_1369, r230_1370, r230_1371, r230_1372, r230_1373, r230_1374, r230_1375, r230_1378, r230_1381, r230_1382_0, r230_1382_1, nI_add, h0, a1, e1, e2, Option.bind_some, vtl_some, vtl_none, eq_self, if_true])
theorem l_copy (h : IV M t z sp c) (hcb : c < 49000000) (h0 : M 0 = xs) (hL : L ≤ 3072) (hi : i + 6 ≤ L) : LW L i xs c (R 230 1383 [.ref 0, .ref 1, .ref 36, .int (nI i)] [] (SH L, M)) := lw_ok h0 (c_copy h (xs (i + 1)) (xs (i + 2)) (xs (i + 3)) (xs (i + 4)) (xs (i + 5))) (fun r M1 M2 e1 a1 e2 => by simp (disch := omega) only [r230_1383, r230_1384, r230_1385, r230_1386, r230_1387, r230_1388, r230_1389, r230_1390, r230_1391, r230_1392, r230_1393, r230_1394, r230_1395, r230_1396, r230_1397, r230_1398, r230_1399, r230_1400, r230_1401, r230_1402, r230_1403, r230_1404, r230_1405, r230_1406, r230_1407, r230_1408, r230_1409, r230_1412, r230_1413, r230_1414, r230_1415, r230_1416, r230_1417, r230_1418, r230_1419, r230_1420, r230_1421, r230_1422, r230_1423, r230_1424, r230_1425, r230_1426, r230_1427, r230_1428, r230_1429, r230_1430, r230_1431, r230_1432, r230_1433, r230_1434, r230_1435, r230_1436, r230_1437, r230_1438, r230_1441, r230_1444, r230_1445_0, r230_1445_1, nI_add, h0, a1, e1, e2, Option.bind_some, vtl_some, vtl_none, eq_self, if_true])
theorem l_load (h : IV M t z sp c) (hcb : c < 49000000) (h0 : M 0 = xs) (hL : L ≤ 3072) (hi : i + 6 ≤ L) : LW L i xs c (R 230 1446 [.ref 0, .ref 1, .ref 36, .int (nI i)] [] (SH L, M)) := lw_ok h0 (c_load h hcb (xs (i + 1)) (xs (i + 2))) (fun r M1 M2 e1 a1 e2 => by simp (disch := omega) only [r230_1446, r230_1447, r230_1448, r230_1449, r230_1450, r230_1451, r230_1452, r230_1453, r230_1454, r230_1455, r230_1456, r230_1457, r230_1460, r230_1461, r230_1462, r230_1463, r230_1464, r230_1465, r230_1466, r230_1467, r230_1468, r230_1469, r230_1470, r230_1471, r230_1474, r230_1477, r230_1478_0, r230_1478_1, nI_add, h0, a1, e1, e2, Option.bind_some, vtl_some, vtl_none, eq_self, if_true])
theorem l_judge (h : IV M t z sp c) (hcb : c < 49000000) (h0 : M 0 = xs) (hL : L ≤ 3072) (hi : i + 6 ≤ L) : LW L i xs c (R 230 1479 [.ref 0, .ref 1, .ref 36, .int (nI i)] [] (SH L, M)) := lw_ok h0 (c_judge h (xs (i + 1))) (fun r M1 M2 e1 a1 e2 => by simp (disch := omega) only [r230_1479, r230_1480, r230_1481, r230_1482, r230_1483, r230_1484, r230_1485, r230_1488, r230_1489, r230_1490, r230_1491, r230_1492, r230_1493, r230_1494, r230_1497, r230_1500, r230_1501_0, r230_1501_1, nI_add, h0, a1, e1, e2, Option.bind_some, vtl_some, vtl_none, eq_self, if_true])
theorem l_image (h : IV M t z sp c) (hcb : c < 49000000) (h0 : M 0 = xs) (hL : L ≤ 3072) (hi : i + 6 ≤ L) : LW L i xs c (R 230 1502 [.ref 0, .ref 1, .ref 36, .int (nI i)] [] (SH L, M)) := lw_ok h0 (c_image h ) (fun r M1 M2 e1 a1 e2 => by simp (disch := omega) only [r230_1502, r230_1503, r230_1506, r230_1507, r230_1510, r230_1513, r230_1514_0, r230_1514_1, nI_add, h0, a1, e1, e2, Option.bind_some, vtl_some, vtl_none, eq_self, if_true])
theorem l_undo (h : IV M t z sp c) (hcb : c < 49000000) (h0 : M 0 = xs) (hL : L ≤ 3072) (hi : i + 6 ≤ L) : LW L i xs c (R 230 1515 [.ref 0, .ref 1, .ref 36, .int (nI i)] [] (SH L, M)) := lw_ok h0 (c_undo h hcb ) (fun r M1 M2 e1 a1 e2 => by simp (disch := omega) only [r230_1515, r230_1516, r230_1519, r230_1520, r230_1523, r230_1526, r230_1527_0, r230_1527_1, nI_add, h0, a1, e1, e2, Option.bind_some, vtl_some, vtl_none, eq_self, if_true])
theorem l_tear (h : IV M t z sp c) (hcb : c < 49000000) (h0 : M 0 = xs) (hL : L ≤ 3072) (hi : i + 6 ≤ L) : LW L i xs c (R 230 1528 [.ref 0, .ref 1, .ref 36, .int (nI i)] [] (SH L, M)) := lw_ok h0 (c_tear h ) (fun r M1 M2 e1 a1 e2 => by simp (disch := omega) only [r230_1528, r230_1529, r230_1532, r230_1533, r230_1536, r230_1539, r230_1540_0, r230_1540_1, nI_add, h0, a1, e1, e2, Option.bind_some, vtl_some, vtl_none, eq_self, if_true])
theorem l_count (h : IV M t z sp c) (hcb : c < 49000000) (h0 : M 0 = xs) (hL : L ≤ 3072) (hi : i + 6 ≤ L) : LW L i xs c (R 230 1541 [.ref 0, .ref 1, .ref 36, .int (nI i)] [] (SH L, M)) := lw_ok h0 (c_count h (xs (i + 1))) (fun r M1 M2 e1 a1 e2 => by simp (disch := omega) only [r230_1541, r230_1542, r230_1543, r230_1544, r230_1545, r230_1546, r230_1547, r230_1550, r230_1551, r230_1552, r230_1553, r230_1554, r230_1555, r230_1556, r230_1559, r230_1562, r230_1563_0, r230_1563_1, nI_add, h0, a1, e1, e2, Option.bind_some, vtl_some, vtl_none, eq_self, if_true])
theorem l_status (h : IV M t z sp c) (hcb : c < 49000000) (h0 : M 0 = xs) (hL : L ≤ 3072) (hi : i + 6 ≤ L) : LW L i xs c (R 230 1564 [.ref 0, .ref 1, .ref 36, .int (nI i)] [] (SH L, M)) := lw_ok h0 (c_status h (xs (i + 1))) (fun r M1 M2 e1 a1 e2 => by simp (disch := omega) only [r230_1564, r230_1565, r230_1566, r230_1567, r230_1568, r230_1569, r230_1570, r230_1573, r230_1574, r230_1575, r230_1576, r230_1577, r230_1578, r230_1579, r230_1582, r230_1585, r230_1586_0, r230_1586_1, nI_add, h0, a1, e1, e2, Option.bind_some, vtl_some, vtl_none, eq_self, if_true])
theorem l_at (h : IV M t z sp c) (hcb : c < 49000000) (h0 : M 0 = xs) (hL : L ≤ 3072) (hi : i + 6 ≤ L) {k : Nat} (hk : k < 64) : LW L i xs c (R 230 33 [.ref 0, .ref 1, .ref 36, .int (nI i)] [.int (nI k)] (SH L, M)) := by
  by_cases k0 : k = 0
  · subst k0; rw [r230_33_0]; exact l_part h hcb h0 hL hi
  by_cases k1 : k = 1
  · subst k1; rw [r230_33_1]; exact l_of h hcb h0 hL hi
  by_cases k2 : k = 2
  · subst k2; rw [r230_33_2]; exact l_change h hcb h0 hL hi
  by_cases k3 : k = 3
  · subst k3; rw [r230_33_3]; exact l_thing h hcb h0 hL hi
  by_cases k4 : k = 4
  · subst k4; rw [r230_33_4]; exact l_knows h hcb h0 hL hi
  by_cases k5 : k = 5
  · subst k5; rw [r230_33_5]; exact l_heirs h hcb h0 hL hi
  by_cases k6 : k = 6
  · subst k6; rw [r230_33_6]; exact l_turn h hcb h0 hL hi
  by_cases k7 : k = 7
  · subst k7; rw [r230_33_7]; exact l_ith h hcb h0 hL hi
  by_cases k8 : k = 8
  · subst k8; rw [r230_33_8]; exact l_brings h hcb h0 hL hi
  by_cases k9 : k = 9
  · subst k9; rw [r230_33_9]; exact l_value h hcb h0 hL hi
  by_cases k10 : k = 10
  · subst k10; rw [r230_33_10]; exact l_dearest h hcb h0 hL hi
  by_cases k11 : k = 11
  · subst k11; rw [r230_33_11]; exact l_best h hcb h0 hL hi
  by_cases k12 : k = 12
  · subst k12; rw [r230_33_12]; exact l_share h hcb h0 hL hi
  by_cases k13 : k = 13
  · subst k13; rw [r230_33_13]; exact l_gets h hcb h0 hL hi
  by_cases k14 : k = 14
  · subst k14; rw [r230_33_14]; exact l_cut h hcb h0 hL hi
  by_cases k15 : k = 15
  · subst k15; rw [r230_33_15]; exact l_takes h hcb h0 hL hi
  by_cases k16 : k = 16
  · subst k16; rw [r230_33_16]; exact l_left h hcb h0 hL hi
  by_cases k17 : k = 17
  · subst k17; rw [r230_33_17]; exact l_envy h hcb h0 hL hi
  by_cases k18 : k = 18
  · subst k18; rw [r230_33_18]; exact l_wholes h hcb h0 hL hi
  by_cases k19 : k = 19
  · subst k19; rw [r230_33_19]; exact l_lost h hcb h0 hL hi
  by_cases k20 : k = 20
  · subst k20; rw [r230_33_20]; exact l_seat h hcb h0 hL hi
  by_cases k21 : k = 21
  · subst k21; rw [r230_33_21]; exact l_fewer h hcb h0 hL hi
  by_cases k22 : k = 22
  · subst k22; rw [r230_33_22]; exact l_fair h hcb h0 hL hi
  by_cases k23 : k = 23
  · subst k23; rw [r230_33_23]; exact l_common h hcb h0 hL hi
  by_cases k24 : k = 24
  · subst k24; rw [r230_33_24]; exact l_deal h hcb h0 hL hi
  by_cases k25 : k = 25
  · subst k25; rw [r230_33_25]; exact l_gift h hcb h0 hL hi
  by_cases k26 : k = 26
  · subst k26; rw [r230_33_26]; exact l_bring h hcb h0 hL hi
  by_cases k27 : k = 27
  · subst k27; rw [r230_33_27]; exact l_joins h hcb h0 hL hi
  by_cases k28 : k = 28
  · subst k28; rw [r230_33_28]; exact l_rows h hcb h0 hL hi
  by_cases k29 : k = 29
  · subst k29; rw [r230_33_29]; exact l_row h hcb h0 hL hi
  by_cases k30 : k = 30
  · subst k30; rw [r230_33_30]; exact l_years h hcb h0 hL hi
  by_cases k31 : k = 31
  · subst k31; rw [r230_33_31]; exact l_ahead h hcb h0 hL hi
  by_cases k32 : k = 32
  · subst k32; rw [r230_33_32]; exact l_gossip h hcb h0 hL hi
  by_cases k33 : k = 33
  · subst k33; rw [r230_33_33]; exact l_seed h hcb h0 hL hi
  by_cases k34 : k = 34
  · subst k34; rw [r230_33_34]; exact l_feed h hcb h0 hL hi
  by_cases k35 : k = 35
  · subst k35; rw [r230_33_35]; exact l_wipe h hcb h0 hL hi
  by_cases k36 : k = 36
  · subst k36; rw [r230_33_36]; exact l_text h hcb h0 hL hi
  by_cases k37 : k = 37
  · subst k37; rw [r230_33_37]; exact l_hold h hcb h0 hL hi
  by_cases k38 : k = 38
  · subst k38; rw [r230_33_38]; exact l_as h hcb h0 hL hi
  by_cases k39 : k = 39
  · subst k39; rw [r230_33_39]; exact l_sheet h hcb h0 hL hi
  by_cases k40 : k = 40
  · subst k40; rw [r230_33_40]; exact l_write h hcb h0 hL hi
  by_cases k41 : k = 41
  · subst k41; rw [r230_33_41]; exact l_copy h hcb h0 hL hi
  by_cases k42 : k = 42
  · subst k42; rw [r230_33_42]; exact l_load h hcb h0 hL hi
  by_cases k43 : k = 43
  · subst k43; rw [r230_33_43]; exact l_judge h hcb h0 hL hi
  by_cases k44 : k = 44
  · subst k44; rw [r230_33_44]; exact l_image h hcb h0 hL hi
  by_cases k45 : k = 45
  · subst k45; rw [r230_33_45]; exact l_undo h hcb h0 hL hi
  by_cases k46 : k = 46
  · subst k46; rw [r230_33_46]; exact l_tear h hcb h0 hL hi
  by_cases k47 : k = 47
  · subst k47; rw [r230_33_47]; exact l_count h hcb h0 hL hi
  by_cases k48 : k = 48
  · subst k48; rw [r230_33_48]; exact l_status h hcb h0 hL hi
  have big : ∀ k, k < 64 → 48 < k → 48 < (nI k).toInt := by decide +kernel
  rw [r230_33_d (Or.inr (big k hk (by omega)))]
  exact ⟨M, t, z, sp, c, rfl, h, by omega, h0⟩
theorem sub6 {L i : Nat} (hL : L ≤ 3072) (hi : i ≤ 4000) : (nI L - nI 6 < nI i) = (L < i + 6) := by
  rcases Nat.lt_or_ge L 6 with q | q
  · have small : ∀ L, L < 6 → nI L - nI 6 < nI 0 := by decide +kernel
    refine propext ⟨fun _ => by omega, fun _ => Int32.lt_of_lt_of_le (small L q) ?_⟩
    rw [nI_le'' (by omega) (by omega)]
    omega
  · rw [pk_sub q, nI_lt' (by omega) (by omega)]
    exact propext ⟨fun _ => by omega, fun _ => by omega⟩
theorem law_l (hL : L ≤ 3072) : ∀ (k i c : Nat) (M : Nat → Nat → Int32) (t : Nat → Nat) (z : Int32) (sp : Nat → Int32), IV M t z sp c → M 0 = xs → i ≤ 3072 → L < i + 6 * k + 6 → c + 12 * k ≤ 48000000 → ∃ M', R 230 18 [.ref 0, .ref 1, .ref 36, .int (nI i)] [] (SH L, M) = some (some (.int 1), (SH L, M')) := by
  have out : ∀ (i : Nat) (M : Nat → Nat → Int32), i ≤ 3072 → L < i + 6 → R 230 18 [.ref 0, .ref 1, .ref 36, .int (nI i)] [] (SH L, M) = some (some (.int 1), (SH L, M)) := fun i M hi hl => by
    simp (disch := omega) only [r230_18, r230_19, r230_20, r230_21, r230_23, r230_24, r230_1593, r230_1594_1, sub6, hl, if_true]
    rfl
  intro k
  induction k with
  | zero => intro i c M t z sp h h0 hi hl hc; exact ⟨M, out i M hi (by omega)⟩
  | succ k ih =>
    intro i c M t z sp h h0 hi hl hc
    by_cases q : L < i + 6
    · exact ⟨M, out i M hi q⟩
    · obtain ⟨M', t', z', sp', c', e, h', hc', h0'⟩ := l_at h (by omega) h0 hL (i := i) (by omega) (k := (xs i).toBitVec.toNat % 2 ^ 6) (Nat.mod_lt _ (by decide))
      obtain ⟨M2, e2⟩ := ih (i + 6) c' M' t' z' sp' h' h0' (by omega) (by omega) (by omega)
      refine ⟨M2, ?_⟩
      rw [← e2]
      have a : R 230 1587 [.ref 0, .ref 1, .ref 36, .int (nI i)] [] (SH L, M') = R 230 18 [.ref 0, .ref 1, .ref 36, .int (nI (i + 6))] [] (SH L, M') := by
        simp (disch := omega) only [r230_1587, r230_1590, nI_add]
      have pa : xs i &&& nI 63 = nI ((xs i).toBitVec.toNat % 2 ^ 6) := pk_and _ 6 (by decide +kernel)
      rw [← a, ← e]
      simp (disch := omega) only [r230_18, r230_19, r230_20, r230_21, r230_23, r230_24, r230_27, r230_28, r230_29, r230_30, r230_32, sub6, q, if_false, h0, pa]
end LAWS
