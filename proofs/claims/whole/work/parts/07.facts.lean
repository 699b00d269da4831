abbrev xin (i : Int32) (n : Nat) : Prop := ¬ (i < 0 ∨ n ≤ i.toNatClampNeg)
theorem x_in7 {i : Int32} (h : xin i 6) : i.toNatClampNeg < 7 := by
  have : ¬ 6 ≤ i.toNatClampNeg := fun z => h (Or.inr z)
  omega
theorem x_grd {α : Type} {c : Prop} {i : Decidable c} {A : Option α} {r : α} (e : (@ite (Option α) c i A none) = some r) : c ∧ A = some r := by
  by_cases hc : c
  · rw [if_pos hc] at e; exact ⟨hc, e⟩
  · rw [if_neg hc] at e; cases e
theorem x_ift {α : Type} {c : Prop} {i : Decidable c} {A B r : α} (hc : c) (e : (@ite α c i A B) = r) : A = r := by
  rw [if_pos hc] at e; exact e
theorem x_iff {α : Type} {c : Prop} {i : Decidable c} {A B r : α} (hc : ¬ c) (e : (@ite α c i A B) = r) : B = r := by
  rw [if_neg hc] at e; exact e
theorem x_bnd {α β : Type} {o : Option α} {f : α → Option β} {r : β} (e : o.bind f = some r) : ∃ x, o = some x ∧ f x = some r := Option.bind_eq_some_iff.mp e
theorem x_ne {x v : Int32} (hx : ¬ x = v) : ¬ x.toInt = v.toInt := fun z => hx (Int32.toInt_inj.mp z)
theorem x_out0_2 {x : Int32} (h0 : ¬ x.toInt = (0 : Int32).toInt) (h1 : ¬ x.toInt = (1 : Int32).toInt) (h2 : ¬ x.toInt = (2 : Int32).toInt) : x.toInt < 0 ∨ 2 < x.toInt := by
  have q : (0 : Int32).toInt = 0 ∧ (1 : Int32).toInt = 1 ∧ (2 : Int32).toInt = 2 := by decide
  omega
theorem x_out0_3 {x : Int32} (h0 : ¬ x.toInt = (0 : Int32).toInt) (h1 : ¬ x.toInt = (1 : Int32).toInt) (h2 : ¬ x.toInt = (2 : Int32).toInt) (h3 : ¬ x.toInt = (3 : Int32).toInt) : x.toInt < 0 ∨ 3 < x.toInt := by
  have q : (0 : Int32).toInt = 0 ∧ (1 : Int32).toInt = 1 ∧ (2 : Int32).toInt = 2 ∧ (3 : Int32).toInt = 3 := by decide
  omega
theorem x_out1_5 {x : Int32} (h1 : ¬ x.toInt = (1 : Int32).toInt) (h2 : ¬ x.toInt = (2 : Int32).toInt) (h3 : ¬ x.toInt = (3 : Int32).toInt) (h4 : ¬ x.toInt = (4 : Int32).toInt) (h5 : ¬ x.toInt = (5 : Int32).toInt) : x.toInt < 1 ∨ 5 < x.toInt := by
  have q : (1 : Int32).toInt = 1 ∧ (2 : Int32).toInt = 2 ∧ (3 : Int32).toInt = 3 ∧ (4 : Int32).toInt = 4 ∧ (5 : Int32).toInt = 5 := by decide
  omega
theorem x_out3_7 {x : Int32} (h3 : ¬ x.toInt = (3 : Int32).toInt) (h4 : ¬ x.toInt = (4 : Int32).toInt) (h5 : ¬ x.toInt = (5 : Int32).toInt) (h6 : ¬ x.toInt = (6 : Int32).toInt) (h7 : ¬ x.toInt = (7 : Int32).toInt) : x.toInt < 3 ∨ 7 < x.toInt := by
  have q : (3 : Int32).toInt = 3 ∧ (4 : Int32).toInt = 4 ∧ (5 : Int32).toInt = 5 ∧ (6 : Int32).toInt = 6 ∧ (7 : Int32).toInt = 7 := by decide
  omega
theorem x_lkout2 {x : Int32} (h0 : ¬ x.toInt = (0 : Int32).toInt) (h1 : ¬ x.toInt = (1 : Int32).toInt) : Op.lookupswitch.offset #[((0 : Int), (26 : Int)), (1, 34)].toList 42 x.toInt = 42 := by
  have q : (0 : Int32).toInt = 0 ∧ (1 : Int32).toInt = 1 := by decide
  rw [q.1] at h0
  rw [q.2] at h1
  simp [Op.lookupswitch.offset, h0, h1, Ne.symm h0, Ne.symm h1, List.find?]
abbrev M_X0_init : xM := (cX0_init, 1, none, RX0)
abbrev M_X0_start : xM := (cX0_start, 2, none, RX0)
abbrev M_X0_offer : xM := (cX0_offer, 3, none, RX0)
abbrev M_X0_search : xM := (cX0_search, 3, none, RX0)
abbrev M_X0_searchPairs : xM := (cX0_searchPairs, 3, none, RX0)
abbrev M_X0_searchTriples : xM := (cX0_searchTriples, 5, none, RX0)
abbrev M_X0_tally : xM := (cX0_tally, 5, none, RX0)
abbrev M_X0_firstAt : xM := (cX0_firstAt, 2, some .int, RX0)
abbrev M_X0_commonAt : xM := (cX0_commonAt, 4, some .int, RX0)
abbrev M_X0_canCover : xM := (cX0_canCover, 2, some .boolean, RX0)
abbrev M_X0_canReach : xM := (cX0_canReach, 6, some .boolean, RX0)
abbrev M_X1_init : xM := (cX1_init, 1, none, RX1)
abbrev M_X1_all : xM := (cX1_all, 1, some .int, RX1)
abbrev M_X1_isSet : xM := (cX1_isSet, 2, some .boolean, RX1)
abbrev M_X1_isSeen : xM := (cX1_isSeen, 3, some .boolean, RX1)
abbrev M_X1_reversed : xM := (cX1_reversed, 4, some .int, RX1)
abbrev M_X1_agreement : xM := (cX1_agreement, 3, some .int, RX1)
abbrev M_X1_extra : xM := (cX1_extra, 1, some .int, RX1)
abbrev M_X1_canShow : xM := (cX1_canShow, 4, some .boolean, RX1)
abbrev M_X1_strays : xM := (cX1_strays, 3, some .boolean, RX1)
abbrev M_X1_alike : xM := (cX1_alike, 4, some .boolean, RX1)
abbrev M_X1_near : xM := (cX1_near, 4, some .boolean, RX1)
abbrev M_X1_witnessLost : xM := (cX1_witnessLost, 3, some .int, RX1)
abbrev M_X1_witnessSeen : xM := (cX1_witnessSeen, 6, some .int, RX1)
abbrev M_X1_lesser : xM := (cX1_lesser, 2, some .int, RX1)
abbrev M_X1_leastSeen : xM := (cX1_leastSeen, 6, some .int, RX1)
abbrev M_X1_canEnd : xM := (cX1_canEnd, 9, some .boolean, RX1)
abbrev M_X1_sightsOf : xM := (cX1_sightsOf, 3, some .int, RX1)
abbrev M_X1_sights : xM := (cX1_sights, 5, some .int, RX1)
abbrev M_X1_sightsBothWays : xM := (cX1_sightsBothWays, 9, some .int, RX1)
abbrev M_X1_leastSights : xM := (cX1_leastSights, 6, some .int, RX1)
abbrev M_X1_allSights : xM := (cX1_allSights, 3, some .int, RX1)
abbrev M_X1_upTo : xM := (cX1_upTo, 4, some .int, RX1)
abbrev M_X1_choose : xM := (cX1_choose, 4, some .int, RX1)
abbrev M_X2_init : xM := (cX2_init, 1, none, RX2)
abbrev M_X2_forget : xM := (cX2_forget, 1, none, RX2)
abbrev M_X2_seek : xM := (cX2_seek, 7, none, RX2)
abbrev M_X2_marksWith : xM := (cX2_marksWith, 5, some .long, RX2)
abbrev M_X2_apartAbove : xM := (cX2_apartAbove, 9, some .long, RX2)
abbrev M_X2_canPick : xM := (cX2_canPick, 7, some .boolean, RX2)
abbrev M_X2_canStandForAny : xM := (cX2_canStandForAny, 4, some .boolean, RX2)
abbrev M_X3_init : xM := (cX3_init, 1, none, RX3)
abbrev M_X3_holds : xM := (cX3_holds, 2, some .boolean, RX3)
abbrev M_X3_append : xM := (cX3_append, 2, some .boolean, RX3)
abbrev M_X3_appendOnce : xM := (cX3_appendOnce, 2, some .boolean, RX3)
abbrev M_X3_remove : xM := (cX3_remove, 3, none, RX3)
abbrev M_X3_wipe : xM := (cX3_wipe, 1, none, RX3)
abbrev M_X3_copy : xM := (cX3_copy, 2, none, RX3)
abbrev M_X4_init : xM := (cX4_init, 1, none, RX4)
abbrev M_X4_forget : xM := (cX4_forget, 1, none, RX4)
abbrev M_X4_lookedAt : xM := (cX4_lookedAt, 3, some .int, RX4)
abbrev M_X4_chanceOf : xM := (cX4_chanceOf, 5, some .long, RX4)
abbrev M_X4_weigh : xM := (cX4_weigh, 3, none, RX4)
abbrev M_X4_possible : xM := (cX4_possible, 3, some .int, RX4)
abbrev M_X4_ranked : xM := (cX4_ranked, 3, some .int, RX4)
abbrev M_X4_ahead : xM := (cX4_ahead, 4, some .int, RX4)
abbrev M_X5_init : xM := (cX5_init, 1, none, RX5)
abbrev M_X5_parse : xM := (cX5_parse, 3, none, RX5)
abbrev M_X5_blame : xM := (cX5_blame, 3, none, RX5)
abbrev M_X5_begin : xM := (cX5_begin, 2, none, RX5)
abbrev M_X5_end : xM := (cX5_end, 1, none, RX5)
abbrev M_X5_takeTest : xM := (cX5_takeTest, 2, none, RX5)
abbrev M_X5_takeOpening : xM := (cX5_takeOpening, 2, none, RX5)
abbrev M_X5_takeWord : xM := (cX5_takeWord, 2, none, RX5)
abbrev M_X5_endTest : xM := (cX5_endTest, 1, none, RX5)
abbrev M_X5_takeJoint : xM := (cX5_takeJoint, 2, none, RX5)
abbrev M_X5_takeNumbered : xM := (cX5_takeNumbered, 4, none, RX5)
abbrev M_X5_takeSum : xM := (cX5_takeSum, 3, none, RX5)
abbrev M_X5_takeNumber : xM := (cX5_takeNumber, 5, some .int, RX5)
abbrev M_X5_put : xM := (cX5_put, 4, none, RX5)
abbrev M_X5_suits : xM := (cX5_suits, 7, some .boolean, RX5)
abbrev M_X5_passes : xM := (cX5_passes, 6, some .boolean, RX5)
abbrev M_X5_sumOf : xM := (cX5_sumOf, 3, some .int, RX5)
abbrev M_X6_init : xM := (cX6_init, 1, none, RX6)
abbrev M_X6_take : xM := (cX6_take, 5, some .boolean, RX6)
abbrev M_X6_rewind : xM := (cX6_rewind, 1, none, RX6)
abbrev M_X6_advance : xM := (cX6_advance, 1, none, RX6)
abbrev M_X6_kindOf : xM := (cX6_kindOf, 1, some .int, RX6)
abbrev M_X6_isSign : xM := (cX6_isSign, 2, some .boolean, RX6)
abbrev M_X6_isWord : xM := (cX6_isWord, 3, some .boolean, RX6)
abbrev M_X6_number : xM := (cX6_number, 3, some .int, RX6)
abbrev M_X7_init : xM := (cX7_init, 2, none, RX7)
abbrev M_X7_places : xM := (cX7_places, 3, some .int, RX7)
abbrev M_X7_island : xM := (cX7_island, 4, some .int, RX7)
abbrev M_X7_is : xM := (cX7_is, 2, some .int, RX7)
abbrev M_X7_turned : xM := (cX7_turned, 2, some .int, RX7)
abbrev M_X7_may : xM := (cX7_may, 4, some .int, RX7)
abbrev M_X7_between : xM := (cX7_between, 4, some .int, RX7)
abbrev M_X7_fills : xM := (cX7_fills, 2, some .int, RX7)
abbrev M_X7_add : xM := (cX7_add, 3, some .int, RX7)
abbrev M_X7_drop : xM := (cX7_drop, 3, some .int, RX7)
abbrev M_X7_clear : xM := (cX7_clear, 3, some .int, RX7)
abbrev M_X7_mark : xM := (cX7_mark, 3, some .int, RX7)
abbrev M_X7_good : xM := (cX7_good, 6, some .int, RX7)
abbrev M_X7_build : xM := (cX7_build, 8, some .int, RX7)
abbrev M_X7_most : xM := (cX7_most, 3, some .int, RX7)
abbrev M_X7_bound : xM := (cX7_bound, 2, some .int, RX7)
abbrev M_X7_lay : xM := (cX7_lay, 9, some .int, RX7)
abbrev M_X7_join : xM := (cX7_join, 5, some .int, RX7)
abbrev M_X7_shorten : xM := (cX7_shorten, 7, some .int, RX7)
abbrev M_X7_turn : xM := (cX7_turn, 4, some .int, RX7)
abbrev M_X7_even : xM := (cX7_even, 6, some .int, RX7)
abbrev M_X7_feed : xM := (cX7_feed, 4, some .int, RX7)
abbrev M_X7_read : xM := (cX7_read, 3, some .int, RX7)
abbrev M_X7_fault : xM := (cX7_fault, 1, some .int, RX7)
abbrev M_X7_count : xM := (cX7_count, 2, some .int, RX7)
abbrev M_X7_owner : xM := (cX7_owner, 8, some .int, RX7)
abbrev M_X7_look : xM := (cX7_look, 4, some .int, RX7)
abbrev M_X7_chance : xM := (cX7_chance, 3, some .long, RX7)
abbrev M_X7_likely : xM := (cX7_likely, 3, some .int, RX7)
abbrev M_X7_heap : xM := (cX7_heap, 7, some .int, RX7)
abbrev M_X7_make : xM := (cX7_make, 10, some .int, RX7)
abbrev M_X7_trace : xM := (cX7_trace, 5, some .int, RX7)
abbrev M_X7_inAll : xM := (cX7_inAll, 5, some .int, RX7)
abbrev M_X7_framed : xM := (cX7_framed, 5, some .int, RX7)
abbrev M_X7_within : xM := (cX7_within, 3, some .boolean, RX7)
abbrev M_X7_isList : xM := (cX7_isList, 1, some .boolean, RX7)
abbrev M_X7_isMark : xM := (cX7_isMark, 3, some .boolean, RX7)
abbrev M_X7_isMarkOrNone : xM := (cX7_isMarkOrNone, 3, some .boolean, RX7)
abbrev M_X7_isPlace : xM := (cX7_isPlace, 2, some .boolean, RX7)
abbrev M_X7_firstAlike : xM := (cX7_firstAlike, 6, some .int, RX7)
abbrev M_X7_ofBadPair : xM := (cX7_ofBadPair, 5, some .int, RX7)
abbrev M_X7_becomesFresh : xM := (cX7_becomesFresh, 2, some .int, RX7)
abbrev M_X7_marksInAll : xM := (cX7_marksInAll, 3, some .int, RX7)
abbrev M_X7_findRings : xM := (cX7_findRings, 4, none, RX7)
abbrev M_X7_offerRings : xM := (cX7_offerRings, 6, none, RX7)
abbrev M_X8_init : xM := (cX8_init, 1, none, RX8)
abbrev M_X8_in : xM := (cX8_in, 6, some .boolean, RX8)
abbrev M_X8_bits : xM := (cX8_bits, 3, some .int, RX8)
abbrev M_X8_isMark : xM := (cX8_isMark, 2, some .boolean, RX8)
abbrev M_X8_isList : xM := (cX8_isList, 1, some .boolean, RX8)
abbrev M_X8_isOf : xM := (cX8_isOf, 3, some .boolean, RX8)
abbrev M_X8_at : xM := (cX8_at, 3, some .int, RX8)
abbrev M_X8_empty : xM := (cX8_empty, 2, none, RX8)
abbrev M_X8_places : xM := (cX8_places, 2, some .int, RX8)
abbrev M_X8_island : xM := (cX8_island, 4, some .int, RX8)
abbrev M_X8_is : xM := (cX8_is, 2, some .int, RX8)
abbrev M_X8_turnedOf : xM := (cX8_turnedOf, 4, some .int, RX8)
abbrev M_X8_turned : xM := (cX8_turned, 2, some .int, RX8)
abbrev M_X8_isNear : xM := (cX8_isNear, 3, some .boolean, RX8)
abbrev M_X8_maySee : xM := (cX8_maySee, 4, some .boolean, RX8)
abbrev M_X8_isSeen : xM := (cX8_isSeen, 3, some .boolean, RX8)
abbrev M_X8_may : xM := (cX8_may, 4, some .int, RX8)
abbrev M_X8_meet : xM := (cX8_meet, 4, some .boolean, RX8)
abbrev M_X8_areAlike : xM := (cX8_areAlike, 3, some .boolean, RX8)
abbrev M_X8_witness : xM := (cX8_witness, 5, some .int, RX8)
abbrev M_X8_between : xM := (cX8_between, 4, some .int, RX8)
abbrev M_X8_choose : xM := (cX8_choose, 4, some .int, RX8)
abbrev M_X8_upTo : xM := (cX8_upTo, 4, some .int, RX8)
abbrev M_X8_filledBy : xM := (cX8_filledBy, 4, some .int, RX8)
abbrev M_X8_filledByBoth : xM := (cX8_filledByBoth, 11, some .int, RX8)
abbrev M_X8_fills : xM := (cX8_fills, 2, some .int, RX8)
abbrev M_X8_has : xM := (cX8_has, 5, some .boolean, RX8)
abbrev M_X8_put : xM := (cX8_put, 3, none, RX8)
abbrev M_X8_add : xM := (cX8_add, 3, some .int, RX8)
abbrev M_X8_drop : xM := (cX8_drop, 4, some .int, RX8)
abbrev M_X8_clear : xM := (cX8_clear, 3, some .int, RX8)
abbrev M_X8_mark : xM := (cX8_mark, 3, some .int, RX8)
abbrev M_X8_good : xM := (cX8_good, 5, some .int, RX8)
abbrev M_X8_isApart : xM := (cX8_isApart, 4, some .boolean, RX8)
abbrev M_X8_build : xM := (cX8_build, 7, some .int, RX8)
abbrev M_X8_bits32 : xM := (cX8_bits32, 3, some .int, RX8)
abbrev M_X8_findMost : xM := (cX8_findMost, 6, none, RX8)
abbrev M_X8_most : xM := (cX8_most, 3, some .int, RX8)
abbrev M_X8_bound : xM := (cX8_bound, 5, some .int, RX8)
abbrev M_X8_come : xM := (cX8_come, 3, none, RX8)
abbrev M_X8_keep : xM := (cX8_keep, 3, some .int, RX8)
abbrev M_X8_lay : xM := (cX8_lay, 9, some .int, RX8)
abbrev M_X8_join : xM := (cX8_join, 5, some .int, RX8)
abbrev M_X8_shorten : xM := (cX8_shorten, 6, some .int, RX8)
abbrev M_X8_turn : xM := (cX8_turn, 4, some .int, RX8)
abbrev M_X8_even : xM := (cX8_even, 6, some .int, RX8)
abbrev M_X8_feed : xM := (cX8_feed, 5, some .int, RX8)
abbrev M_X8_here : xM := (cX8_here, 1, some .int, RX8)
abbrev M_X8_fails : xM := (cX8_fails, 3, some .int, RX8)
abbrev M_X8_readWord : xM := (cX8_readWord, 2, none, RX8)
abbrev M_X8_code : xM := (cX8_code, 7, some .long, RX8)
abbrev M_X8_readNumber : xM := (cX8_readNumber, 5, some .int, RX8)
abbrev M_X8_step : xM := (cX8_step, 3, none, RX8)
abbrev M_X8_work : xM := (cX8_work, 2, none, RX8)
abbrev M_X8_hold : xM := (cX8_hold, 2, none, RX8)
abbrev M_X8_readSum : xM := (cX8_readSum, 3, some .int, RX8)
abbrev M_X8_readLeaf : xM := (cX8_readLeaf, 3, some .int, RX8)
abbrev M_X8_readOne : xM := (cX8_readOne, 1, some .int, RX8)
abbrev M_X8_readBehind : xM := (cX8_readBehind, 2, some .int, RX8)
abbrev M_X8_sumOf : xM := (cX8_sumOf, 4, some .int, RX8)
abbrev M_X8_isSo : xM := (cX8_isSo, 4, some .boolean, RX8)
abbrev M_X8_holds : xM := (cX8_holds, 4, some .boolean, RX8)
abbrev M_X8_read : xM := (cX8_read, 4, some .int, RX8)
abbrev M_X8_fault : xM := (cX8_fault, 1, some .int, RX8)
abbrev M_X8_count : xM := (cX8_count, 5, some .int, RX8)
abbrev M_X8_owner : xM := (cX8_owner, 7, some .int, RX8)
abbrev M_X8_look : xM := (cX8_look, 4, some .int, RX8)
abbrev M_X8_chanceOf : xM := (cX8_chanceOf, 5, some .long, RX8)
abbrev M_X8_chance : xM := (cX8_chance, 3, some .long, RX8)
abbrev M_X8_likely : xM := (cX8_likely, 7, some .int, RX8)
abbrev M_X8_begin : xM := (cX8_begin, 1, none, RX8)
abbrev M_X8_goOn : xM := (cX8_goOn, 5, some .boolean, RX8)
abbrev M_X8_all : xM := (cX8_all, 4, some .int, RX8)
abbrev M_X8_common : xM := (cX8_common, 4, some .int, RX8)
abbrev M_X8_isAsked : xM := (cX8_isAsked, 4, some .boolean, RX8)
abbrev M_X8_heap : xM := (cX8_heap, 7, some .int, RX8)
abbrev M_X8_canMake : xM := (cX8_canMake, 3, some .boolean, RX8)
abbrev M_X8_make : xM := (cX8_make, 9, some .int, RX8)
abbrev M_X8_findRings : xM := (cX8_findRings, 7, none, RX8)
abbrev M_X8_trace : xM := (cX8_trace, 7, some .int, RX8)
abbrev M_X8_inAll : xM := (cX8_inAll, 7, some .int, RX8)
abbrev M_X8_isPicked : xM := (cX8_isPicked, 4, some .boolean, RX8)
abbrev M_X8_framed : xM := (cX8_framed, 9, some .int, RX8)
abbrev M_J6_bitCount_0f7a4 : xM := (cJ6_bitCount_0f7a4, 1, some .int, RJ6)
abbrev M_J13_bitCount_95d88 : xM := (cJ13_bitCount_95d88, 2, some .int, RJ13)
abbrev M_J9_max_7cf53 : xM := (cJ9_max_7cf53, 2, some .int, RJ9)
abbrev M_J9_min_7cf53 : xM := (cJ9_min_7cf53, 2, some .int, RJ9)
abbrev M_J0_length_8abf5 : xM := (cJ0_length_8abf5, 1, some .int, RJ0)
abbrev M_J0_charAt_5068e : xM := (cJ0_charAt_5068e, 2, some .char, RJ0)
abbrev M_J0_coder_7d493 : xM := (cJ0_coder_7d493, 1, some .byte, RJ0)
abbrev M_J0_isLatin1_aae02 : xM := (cJ0_isLatin1_aae02, 1, some .boolean, RJ0)
abbrev M_J0_checkIndex_df160 : xM := (cJ0_checkIndex_df160, 2, none, RJ0)
abbrev M_J1_charAt_3b067 : xM := (cJ1_charAt_3b067, 2, some .char, RJ1)
abbrev M_J2_getChar_3b067 : xM := (cJ2_getChar_3b067, 2, some .char, RJ2)
abbrev M_J2_length_9d52b : xM := (cJ2_length_9d52b, 1, some .int, RJ2)
abbrev M_J2_charAt_3b067 : xM := (cJ2_charAt_3b067, 2, some .char, RJ2)
abbrev M_J2_checkIndex_2214a : xM := (cJ2_checkIndex_2214a, 2, none, RJ2)
abbrev M_J7_fill_d0a16 : xM := (cJ7_fill_d0a16, 5, none, RJ7)
abbrev M_J7_fill_53178 : xM := (cJ7_fill_53178, 4, none, RJ7)
abbrev M_J3_checkIndex_8e157 : xM := (cJ3_checkIndex_8e157, 3, some .int, RJ3)
theorem i_X0 : ∀ w ∈ u_ws RX0 TX0 8, w ∈ xtb := by decide +kernel
theorem i_X1 : ∀ w ∈ u_ws RX1 TX1 4, w ∈ xtb := by decide +kernel
theorem i_X2 : ∀ w ∈ u_ws RX2 TX2 6, w ∈ xtb := by decide +kernel
theorem i_X3 : ∀ w ∈ u_ws RX3 TX3 3, w ∈ xtb := by decide +kernel
theorem i_X4 : ∀ w ∈ u_ws RX4 TX4 3, w ∈ xtb := by decide +kernel
theorem i_X5 : ∀ w ∈ u_ws RX5 TX5 11, w ∈ xtb := by decide +kernel
theorem i_X6 : ∀ w ∈ u_ws RX6 TX6 5, w ∈ xtb := by decide +kernel
theorem i_X7 : ∀ w ∈ u_ws RX7 TX7 8, w ∈ xtb := by decide +kernel
theorem i_X8 : ∀ w ∈ u_ws RX8 TX8 35, w ∈ xtb := by decide +kernel
theorem F_X0_9 : xF RX0 9 0 0 := ⟨RX0, TX0, 8, tyX0, rfl, by decide, x_in 271 (by decide +kernel) rfl, i_X0, tyX0_ok, nmX0⟩
theorem F_X0_15 : xF RX0 15 0 1 := ⟨RX0, TX0, 8, tyX0, rfl, by decide, x_in 272 (by decide +kernel) rfl, i_X0, tyX0_ok, nmX0⟩
theorem F_X0_18 : xF RX0 18 0 2 := ⟨RX0, TX0, 8, tyX0, rfl, by decide, x_in 273 (by decide +kernel) rfl, i_X0, tyX0_ok, nmX0⟩
theorem F_X0_21 : xF RX0 21 0 3 := ⟨RX0, TX0, 8, tyX0, rfl, by decide, x_in 274 (by decide +kernel) rfl, i_X0, tyX0_ok, nmX0⟩
theorem F_X0_25 : xF RX0 25 0 4 := ⟨RX0, TX0, 8, tyX0, rfl, by decide, x_in 275 (by decide +kernel) rfl, i_X0, tyX0_ok, nmX0⟩
theorem F_X0_28 : xF RX0 28 0 5 := ⟨RX0, TX0, 8, tyX0, rfl, by decide, x_in 276 (by decide +kernel) rfl, i_X0, tyX0_ok, nmX0⟩
theorem F_X0_31 : xF RX0 31 0 6 := ⟨RX0, TX0, 8, tyX0, rfl, by decide, x_in 278 (by decide +kernel) rfl, i_X0, tyX0_ok, nmX0⟩
theorem F_X0_34 : xF RX0 34 0 7 := ⟨RX0, TX0, 8, tyX0, rfl, by decide, x_in 280 (by decide +kernel) rfl, i_X0, tyX0_ok, nmX0⟩
theorem F_X1_9 : xF RX1 9 1 0 := ⟨RX1, TX1, 4, tyX1, rfl, by decide, x_in 110 (by decide +kernel) rfl, i_X1, tyX1_ok, nmX1⟩
theorem F_X1_15 : xF RX1 15 1 1 := ⟨RX1, TX1, 4, tyX1, rfl, by decide, x_in 112 (by decide +kernel) rfl, i_X1, tyX1_ok, nmX1⟩
theorem F_X1_18 : xF RX1 18 1 2 := ⟨RX1, TX1, 4, tyX1, rfl, by decide, x_in 114 (by decide +kernel) rfl, i_X1, tyX1_ok, nmX1⟩
theorem F_X1_21 : xF RX1 21 1 3 := ⟨RX1, TX1, 4, tyX1, rfl, by decide, x_in 116 (by decide +kernel) rfl, i_X1, tyX1_ok, nmX1⟩
theorem F_X2_11 : xF RX2 11 2 0 := ⟨RX2, TX2, 6, tyX2, rfl, by decide, x_in 244 (by decide +kernel) rfl, i_X2, tyX2_ok, nmX2⟩
theorem F_X2_15 : xF RX2 15 2 1 := ⟨RX2, TX2, 6, tyX2, rfl, by decide, x_in 246 (by decide +kernel) rfl, i_X2, tyX2_ok, nmX2⟩
theorem F_X2_19 : xF RX2 19 2 2 := ⟨RX2, TX2, 6, tyX2, rfl, by decide, x_in 247 (by decide +kernel) rfl, i_X2, tyX2_ok, nmX2⟩
theorem F_X2_22 : xF RX2 22 2 3 := ⟨RX2, TX2, 6, tyX2, rfl, by decide, x_in 248 (by decide +kernel) rfl, i_X2, tyX2_ok, nmX2⟩
theorem F_X2_26 : xF RX2 26 2 4 := ⟨RX2, TX2, 6, tyX2, rfl, by decide, x_in 250 (by decide +kernel) rfl, i_X2, tyX2_ok, nmX2⟩
theorem F_X2_29 : xF RX2 29 2 5 := ⟨RX2, TX2, 6, tyX2, rfl, by decide, x_in 251 (by decide +kernel) rfl, i_X2, tyX2_ok, nmX2⟩
theorem F_X3_9 : xF RX3 9 3 0 := ⟨RX3, TX3, 3, tyX3, rfl, by decide, x_in 134 (by decide +kernel) rfl, i_X3, tyX3_ok, nmX3⟩
theorem F_X3_15 : xF RX3 15 3 1 := ⟨RX3, TX3, 3, tyX3, rfl, by decide, x_in 137 (by decide +kernel) rfl, i_X3, tyX3_ok, nmX3⟩
theorem F_X3_19 : xF RX3 19 3 2 := ⟨RX3, TX3, 3, tyX3, rfl, by decide, x_in 138 (by decide +kernel) rfl, i_X3, tyX3_ok, nmX3⟩
theorem F_X4_9 : xF RX4 9 4 0 := ⟨RX4, TX4, 3, tyX4, rfl, by decide, x_in 159 (by decide +kernel) rfl, i_X4, tyX4_ok, nmX4⟩
theorem F_X4_15 : xF RX4 15 4 1 := ⟨RX4, TX4, 3, tyX4, rfl, by decide, x_in 161 (by decide +kernel) rfl, i_X4, tyX4_ok, nmX4⟩
theorem F_X4_19 : xF RX4 19 4 2 := ⟨RX4, TX4, 3, tyX4, rfl, by decide, x_in 162 (by decide +kernel) rfl, i_X4, tyX4_ok, nmX4⟩
theorem F_X4_29 : xF RX4 29 3 2 := ⟨RX3, TX3, 3, tyX3, rfl, by decide, x_in 139 (by decide +kernel) rfl, i_X3, tyX3_ok, nmX3⟩
theorem F_X4_34 : xF RX4 34 3 0 := ⟨RX3, TX3, 3, tyX3, rfl, by decide, x_in 135 (by decide +kernel) rfl, i_X3, tyX3_ok, nmX3⟩
theorem F_X5_11 : xF RX5 11 5 0 := ⟨RX5, TX5, 11, tyX5, rfl, by decide, x_in 201 (by decide +kernel) rfl, i_X5, tyX5_ok, nmX5⟩
theorem F_X5_17 : xF RX5 17 5 1 := ⟨RX5, TX5, 11, tyX5, rfl, by decide, x_in 202 (by decide +kernel) rfl, i_X5, tyX5_ok, nmX5⟩
theorem F_X5_20 : xF RX5 20 5 2 := ⟨RX5, TX5, 11, tyX5, rfl, by decide, x_in 203 (by decide +kernel) rfl, i_X5, tyX5_ok, nmX5⟩
theorem F_X5_23 : xF RX5 23 5 3 := ⟨RX5, TX5, 11, tyX5, rfl, by decide, x_in 204 (by decide +kernel) rfl, i_X5, tyX5_ok, nmX5⟩
theorem F_X5_27 : xF RX5 27 5 4 := ⟨RX5, TX5, 11, tyX5, rfl, by decide, x_in 205 (by decide +kernel) rfl, i_X5, tyX5_ok, nmX5⟩
theorem F_X5_30 : xF RX5 30 5 5 := ⟨RX5, TX5, 11, tyX5, rfl, by decide, x_in 207 (by decide +kernel) rfl, i_X5, tyX5_ok, nmX5⟩
theorem F_X5_33 : xF RX5 33 5 6 := ⟨RX5, TX5, 11, tyX5, rfl, by decide, x_in 209 (by decide +kernel) rfl, i_X5, tyX5_ok, nmX5⟩
theorem F_X5_37 : xF RX5 37 5 7 := ⟨RX5, TX5, 11, tyX5, rfl, by decide, x_in 210 (by decide +kernel) rfl, i_X5, tyX5_ok, nmX5⟩
theorem F_X5_40 : xF RX5 40 5 8 := ⟨RX5, TX5, 11, tyX5, rfl, by decide, x_in 211 (by decide +kernel) rfl, i_X5, tyX5_ok, nmX5⟩
theorem F_X5_43 : xF RX5 43 5 9 := ⟨RX5, TX5, 11, tyX5, rfl, by decide, x_in 212 (by decide +kernel) rfl, i_X5, tyX5_ok, nmX5⟩
theorem F_X5_46 : xF RX5 46 5 10 := ⟨RX5, TX5, 11, tyX5, rfl, by decide, x_in 213 (by decide +kernel) rfl, i_X5, tyX5_ok, nmX5⟩
theorem F_X5_57 : xF RX5 57 6 2 := ⟨RX6, TX6, 5, tyX6, rfl, by decide, x_in 180 (by decide +kernel) rfl, i_X6, tyX6_ok, nmX6⟩
theorem F_X5_74 : xF RX5 74 6 3 := ⟨RX6, TX6, 5, tyX6, rfl, by decide, x_in 182 (by decide +kernel) rfl, i_X6, tyX6_ok, nmX6⟩
theorem F_X6_11 : xF RX6 11 6 0 := ⟨RX6, TX6, 5, tyX6, rfl, by decide, x_in 176 (by decide +kernel) rfl, i_X6, tyX6_ok, nmX6⟩
theorem F_X6_15 : xF RX6 15 6 1 := ⟨RX6, TX6, 5, tyX6, rfl, by decide, x_in 177 (by decide +kernel) rfl, i_X6, tyX6_ok, nmX6⟩
theorem F_X6_19 : xF RX6 19 6 2 := ⟨RX6, TX6, 5, tyX6, rfl, by decide, x_in 179 (by decide +kernel) rfl, i_X6, tyX6_ok, nmX6⟩
theorem F_X6_22 : xF RX6 22 6 3 := ⟨RX6, TX6, 5, tyX6, rfl, by decide, x_in 181 (by decide +kernel) rfl, i_X6, tyX6_ok, nmX6⟩
theorem F_X6_25 : xF RX6 25 6 4 := ⟨RX6, TX6, 5, tyX6, rfl, by decide, x_in 183 (by decide +kernel) rfl, i_X6, tyX6_ok, nmX6⟩
theorem F_X7_12 : xF RX7 12 7 0 := ⟨RX7, TX7, 8, tyX7, rfl, by decide, x_in 299 (by decide +kernel) rfl, i_X7, tyX7_ok, nmX7⟩
theorem F_X7_18 : xF RX7 18 7 1 := ⟨RX7, TX7, 8, tyX7, rfl, by decide, x_in 300 (by decide +kernel) rfl, i_X7, tyX7_ok, nmX7⟩
theorem F_X7_23 : xF RX7 23 7 2 := ⟨RX7, TX7, 8, tyX7, rfl, by decide, x_in 301 (by decide +kernel) rfl, i_X7, tyX7_ok, nmX7⟩
theorem F_X7_30 : xF RX7 30 7 3 := ⟨RX7, TX7, 8, tyX7, rfl, by decide, x_in 302 (by decide +kernel) rfl, i_X7, tyX7_ok, nmX7⟩
theorem F_X7_37 : xF RX7 37 7 4 := ⟨RX7, TX7, 8, tyX7, rfl, by decide, x_in 303 (by decide +kernel) rfl, i_X7, tyX7_ok, nmX7⟩
theorem F_X7_44 : xF RX7 44 7 5 := ⟨RX7, TX7, 8, tyX7, rfl, by decide, x_in 304 (by decide +kernel) rfl, i_X7, tyX7_ok, nmX7⟩
theorem F_X7_51 : xF RX7 51 7 6 := ⟨RX7, TX7, 8, tyX7, rfl, by decide, x_in 305 (by decide +kernel) rfl, i_X7, tyX7_ok, nmX7⟩
theorem F_X7_58 : xF RX7 58 7 7 := ⟨RX7, TX7, 8, tyX7, rfl, by decide, x_in 306 (by decide +kernel) rfl, i_X7, tyX7_ok, nmX7⟩
theorem F_X7_62 : xF RX7 62 1 0 := ⟨RX1, TX1, 4, tyX1, rfl, by decide, x_in 111 (by decide +kernel) rfl, i_X1, tyX1_ok, nmX1⟩
theorem F_X7_77 : xF RX7 77 1 1 := ⟨RX1, TX1, 4, tyX1, rfl, by decide, x_in 113 (by decide +kernel) rfl, i_X1, tyX1_ok, nmX1⟩
theorem F_X7_80 : xF RX7 80 1 2 := ⟨RX1, TX1, 4, tyX1, rfl, by decide, x_in 115 (by decide +kernel) rfl, i_X1, tyX1_ok, nmX1⟩
theorem F_X7_83 : xF RX7 83 1 3 := ⟨RX1, TX1, 4, tyX1, rfl, by decide, x_in 117 (by decide +kernel) rfl, i_X1, tyX1_ok, nmX1⟩
theorem F_X7_120 : xF RX7 120 3 2 := ⟨RX3, TX3, 3, tyX3, rfl, by decide, x_in 140 (by decide +kernel) rfl, i_X3, tyX3_ok, nmX3⟩
theorem F_X7_130 : xF RX7 130 3 0 := ⟨RX3, TX3, 3, tyX3, rfl, by decide, x_in 136 (by decide +kernel) rfl, i_X3, tyX3_ok, nmX3⟩
theorem F_X7_150 : xF RX7 150 2 3 := ⟨RX2, TX2, 6, tyX2, rfl, by decide, x_in 249 (by decide +kernel) rfl, i_X2, tyX2_ok, nmX2⟩
theorem F_X7_151 : xF RX7 151 2 0 := ⟨RX2, TX2, 6, tyX2, rfl, by decide, x_in 245 (by decide +kernel) rfl, i_X2, tyX2_ok, nmX2⟩
theorem F_X7_182 : xF RX7 182 6 1 := ⟨RX6, TX6, 5, tyX6, rfl, by decide, x_in 178 (by decide +kernel) rfl, i_X6, tyX6_ok, nmX6⟩
theorem F_X7_189 : xF RX7 189 5 4 := ⟨RX5, TX5, 11, tyX5, rfl, by decide, x_in 206 (by decide +kernel) rfl, i_X5, tyX5_ok, nmX5⟩
theorem F_X7_196 : xF RX7 196 5 5 := ⟨RX5, TX5, 11, tyX5, rfl, by decide, x_in 208 (by decide +kernel) rfl, i_X5, tyX5_ok, nmX5⟩
theorem F_X7_205 : xF RX7 205 4 0 := ⟨RX4, TX4, 3, tyX4, rfl, by decide, x_in 160 (by decide +kernel) rfl, i_X4, tyX4_ok, nmX4⟩
theorem F_X7_233 : xF RX7 233 0 5 := ⟨RX0, TX0, 8, tyX0, rfl, by decide, x_in 277 (by decide +kernel) rfl, i_X0, tyX0_ok, nmX0⟩
theorem F_X7_236 : xF RX7 236 0 6 := ⟨RX0, TX0, 8, tyX0, rfl, by decide, x_in 279 (by decide +kernel) rfl, i_X0, tyX0_ok, nmX0⟩
theorem F_X7_252 : xF RX7 252 0 7 := ⟨RX0, TX0, 8, tyX0, rfl, by decide, x_in 281 (by decide +kernel) rfl, i_X0, tyX0_ok, nmX0⟩
theorem F_X8_7 : xF RX8 7 8 0 := ⟨RX8, TX8, 35, tyX8, rfl, by decide, x_in 903 (by decide +kernel) rfl, i_X8, tyX8_ok, nmX8⟩
theorem F_X8_13 : xF RX8 13 8 2 := ⟨RX8, TX8, 35, tyX8, rfl, by decide, x_in 905 (by decide +kernel) rfl, i_X8, tyX8_ok, nmX8⟩
theorem F_X8_16 : xF RX8 16 8 4 := ⟨RX8, TX8, 35, tyX8, rfl, by decide, x_in 907 (by decide +kernel) rfl, i_X8, tyX8_ok, nmX8⟩
theorem F_X8_20 : xF RX8 20 8 5 := ⟨RX8, TX8, 35, tyX8, rfl, by decide, x_in 908 (by decide +kernel) rfl, i_X8, tyX8_ok, nmX8⟩
theorem F_X8_23 : xF RX8 23 8 6 := ⟨RX8, TX8, 35, tyX8, rfl, by decide, x_in 909 (by decide +kernel) rfl, i_X8, tyX8_ok, nmX8⟩
theorem F_X8_26 : xF RX8 26 8 7 := ⟨RX8, TX8, 35, tyX8, rfl, by decide, x_in 910 (by decide +kernel) rfl, i_X8, tyX8_ok, nmX8⟩
theorem F_X8_29 : xF RX8 29 8 8 := ⟨RX8, TX8, 35, tyX8, rfl, by decide, x_in 911 (by decide +kernel) rfl, i_X8, tyX8_ok, nmX8⟩
theorem F_X8_32 : xF RX8 32 8 10 := ⟨RX8, TX8, 35, tyX8, rfl, by decide, x_in 913 (by decide +kernel) rfl, i_X8, tyX8_ok, nmX8⟩
theorem F_X8_35 : xF RX8 35 8 12 := ⟨RX8, TX8, 35, tyX8, rfl, by decide, x_in 915 (by decide +kernel) rfl, i_X8, tyX8_ok, nmX8⟩
theorem F_X8_38 : xF RX8 38 8 13 := ⟨RX8, TX8, 35, tyX8, rfl, by decide, x_in 916 (by decide +kernel) rfl, i_X8, tyX8_ok, nmX8⟩
theorem F_X8_41 : xF RX8 41 8 15 := ⟨RX8, TX8, 35, tyX8, rfl, by decide, x_in 918 (by decide +kernel) rfl, i_X8, tyX8_ok, nmX8⟩
theorem F_X8_44 : xF RX8 44 8 21 := ⟨RX8, TX8, 35, tyX8, rfl, by decide, x_in 924 (by decide +kernel) rfl, i_X8, tyX8_ok, nmX8⟩
theorem F_X8_47 : xF RX8 47 8 22 := ⟨RX8, TX8, 35, tyX8, rfl, by decide, x_in 925 (by decide +kernel) rfl, i_X8, tyX8_ok, nmX8⟩
theorem F_X8_50 : xF RX8 50 8 24 := ⟨RX8, TX8, 35, tyX8, rfl, by decide, x_in 927 (by decide +kernel) rfl, i_X8, tyX8_ok, nmX8⟩
theorem F_X8_53 : xF RX8 53 8 27 := ⟨RX8, TX8, 35, tyX8, rfl, by decide, x_in 930 (by decide +kernel) rfl, i_X8, tyX8_ok, nmX8⟩
theorem F_X8_57 : xF RX8 57 8 28 := ⟨RX8, TX8, 35, tyX8, rfl, by decide, x_in 931 (by decide +kernel) rfl, i_X8, tyX8_ok, nmX8⟩
theorem F_X8_60 : xF RX8 60 8 29 := ⟨RX8, TX8, 35, tyX8, rfl, by decide, x_in 932 (by decide +kernel) rfl, i_X8, tyX8_ok, nmX8⟩
theorem F_X8_64 : xF RX8 64 8 30 := ⟨RX8, TX8, 35, tyX8, rfl, by decide, x_in 933 (by decide +kernel) rfl, i_X8, tyX8_ok, nmX8⟩
theorem F_X8_88 : xF RX8 88 8 1 := ⟨RX8, TX8, 35, tyX8, rfl, by decide, x_in 904 (by decide +kernel) rfl, i_X8, tyX8_ok, nmX8⟩
theorem F_X8_91 : xF RX8 91 8 3 := ⟨RX8, TX8, 35, tyX8, rfl, by decide, x_in 906 (by decide +kernel) rfl, i_X8, tyX8_ok, nmX8⟩
theorem F_X8_158 : xF RX8 158 8 9 := ⟨RX8, TX8, 35, tyX8, rfl, by decide, x_in 912 (by decide +kernel) rfl, i_X8, tyX8_ok, nmX8⟩
theorem F_X8_170 : xF RX8 170 8 11 := ⟨RX8, TX8, 35, tyX8, rfl, by decide, x_in 914 (by decide +kernel) rfl, i_X8, tyX8_ok, nmX8⟩
theorem F_X8_181 : xF RX8 181 8 14 := ⟨RX8, TX8, 35, tyX8, rfl, by decide, x_in 917 (by decide +kernel) rfl, i_X8, tyX8_ok, nmX8⟩
theorem F_X8_186 : xF RX8 186 8 16 := ⟨RX8, TX8, 35, tyX8, rfl, by decide, x_in 919 (by decide +kernel) rfl, i_X8, tyX8_ok, nmX8⟩
theorem F_X8_193 : xF RX8 193 8 17 := ⟨RX8, TX8, 35, tyX8, rfl, by decide, x_in 920 (by decide +kernel) rfl, i_X8, tyX8_ok, nmX8⟩
theorem F_X8_197 : xF RX8 197 8 18 := ⟨RX8, TX8, 35, tyX8, rfl, by decide, x_in 921 (by decide +kernel) rfl, i_X8, tyX8_ok, nmX8⟩
theorem F_X8_219 : xF RX8 219 8 19 := ⟨RX8, TX8, 35, tyX8, rfl, by decide, x_in 922 (by decide +kernel) rfl, i_X8, tyX8_ok, nmX8⟩
theorem F_X8_222 : xF RX8 222 8 20 := ⟨RX8, TX8, 35, tyX8, rfl, by decide, x_in 923 (by decide +kernel) rfl, i_X8, tyX8_ok, nmX8⟩
theorem F_X8_225 : xF RX8 225 8 23 := ⟨RX8, TX8, 35, tyX8, rfl, by decide, x_in 926 (by decide +kernel) rfl, i_X8, tyX8_ok, nmX8⟩
theorem F_X8_247 : xF RX8 247 8 26 := ⟨RX8, TX8, 35, tyX8, rfl, by decide, x_in 929 (by decide +kernel) rfl, i_X8, tyX8_ok, nmX8⟩
theorem F_X8_254 : xF RX8 254 8 25 := ⟨RX8, TX8, 35, tyX8, rfl, by decide, x_in 928 (by decide +kernel) rfl, i_X8, tyX8_ok, nmX8⟩
theorem F_X8_283 : xF RX8 283 8 31 := ⟨RX8, TX8, 35, tyX8, rfl, by decide, x_in 934 (by decide +kernel) rfl, i_X8, tyX8_ok, nmX8⟩
theorem F_X8_301 : xF RX8 301 8 32 := ⟨RX8, TX8, 35, tyX8, rfl, by decide, x_in 935 (by decide +kernel) rfl, i_X8, tyX8_ok, nmX8⟩
theorem F_X8_304 : xF RX8 304 8 33 := ⟨RX8, TX8, 35, tyX8, rfl, by decide, x_in 936 (by decide +kernel) rfl, i_X8, tyX8_ok, nmX8⟩
theorem F_X8_307 : xF RX8 307 8 34 := ⟨RX8, TX8, 35, tyX8, rfl, by decide, x_in 937 (by decide +kernel) rfl, i_X8, tyX8_ok, nmX8⟩
theorem Fp_0_3 : xFp 0 3 .int := fun C T N hC => by
  have h2 : (RX0, TX0, 8) = (C, T, N) := Option.some.inj hC
  cases h2
  exact ⟨rfl, by decide +kernel⟩
theorem Fp_0_4 : xFp 0 4 .int := fun C T N hC => by
  have h2 : (RX0, TX0, 8) = (C, T, N) := Option.some.inj hC
  cases h2
  exact ⟨rfl, by decide +kernel⟩
theorem Fp_0_5 : xFp 0 5 .int := fun C T N hC => by
  have h2 : (RX0, TX0, 8) = (C, T, N) := Option.some.inj hC
  cases h2
  exact ⟨rfl, by decide +kernel⟩
theorem Fp_0_6 : xFp 0 6 .int := fun C T N hC => by
  have h2 : (RX0, TX0, 8) = (C, T, N) := Option.some.inj hC
  cases h2
  exact ⟨rfl, by decide +kernel⟩
theorem Fp_0_7 : xFp 0 7 .long := fun C T N hC => by
  have h2 : (RX0, TX0, 8) = (C, T, N) := Option.some.inj hC
  cases h2
  exact ⟨rfl, by decide +kernel⟩
theorem Fp_1_0 : xFp 1 0 .int := fun C T N hC => by
  have h2 : (RX1, TX1, 4) = (C, T, N) := Option.some.inj hC
  cases h2
  exact ⟨rfl, by decide +kernel⟩
theorem Fp_1_1 : xFp 1 1 .int := fun C T N hC => by
  have h2 : (RX1, TX1, 4) = (C, T, N) := Option.some.inj hC
  cases h2
  exact ⟨rfl, by decide +kernel⟩
theorem Fp_1_2 : xFp 1 2 .int := fun C T N hC => by
  have h2 : (RX1, TX1, 4) = (C, T, N) := Option.some.inj hC
  cases h2
  exact ⟨rfl, by decide +kernel⟩
theorem Fp_1_3 : xFp 1 3 .int := fun C T N hC => by
  have h2 : (RX1, TX1, 4) = (C, T, N) := Option.some.inj hC
  cases h2
  exact ⟨rfl, by decide +kernel⟩
theorem Fp_2_3 : xFp 2 3 .int := fun C T N hC => by
  have h2 : (RX2, TX2, 6) = (C, T, N) := Option.some.inj hC
  cases h2
  exact ⟨rfl, by decide +kernel⟩
theorem Fp_2_4 : xFp 2 4 .int := fun C T N hC => by
  have h2 : (RX2, TX2, 6) = (C, T, N) := Option.some.inj hC
  cases h2
  exact ⟨rfl, by decide +kernel⟩
theorem Fp_2_5 : xFp 2 5 .boolean := fun C T N hC => by
  have h2 : (RX2, TX2, 6) = (C, T, N) := Option.some.inj hC
  cases h2
  exact ⟨rfl, by decide +kernel⟩
theorem Fp_3_2 : xFp 3 2 .int := fun C T N hC => by
  have h2 : (RX3, TX3, 3) = (C, T, N) := Option.some.inj hC
  cases h2
  exact ⟨rfl, by decide +kernel⟩
theorem Fp_4_2 : xFp 4 2 .int := fun C T N hC => by
  have h2 : (RX4, TX4, 3) = (C, T, N) := Option.some.inj hC
  cases h2
  exact ⟨rfl, by decide +kernel⟩
theorem Fp_5_3 : xFp 5 3 .int := fun C T N hC => by
  have h2 : (RX5, TX5, 11) = (C, T, N) := Option.some.inj hC
  cases h2
  exact ⟨rfl, by decide +kernel⟩
theorem Fp_5_4 : xFp 5 4 .int := fun C T N hC => by
  have h2 : (RX5, TX5, 11) = (C, T, N) := Option.some.inj hC
  cases h2
  exact ⟨rfl, by decide +kernel⟩
theorem Fp_5_5 : xFp 5 5 .int := fun C T N hC => by
  have h2 : (RX5, TX5, 11) = (C, T, N) := Option.some.inj hC
  cases h2
  exact ⟨rfl, by decide +kernel⟩
theorem Fp_5_9 : xFp 5 9 .int := fun C T N hC => by
  have h2 : (RX5, TX5, 11) = (C, T, N) := Option.some.inj hC
  cases h2
  exact ⟨rfl, by decide +kernel⟩
theorem Fp_5_10 : xFp 5 10 .boolean := fun C T N hC => by
  have h2 : (RX5, TX5, 11) = (C, T, N) := Option.some.inj hC
  cases h2
  exact ⟨rfl, by decide +kernel⟩
theorem Fp_6_2 : xFp 6 2 .int := fun C T N hC => by
  have h2 : (RX6, TX6, 5) = (C, T, N) := Option.some.inj hC
  cases h2
  exact ⟨rfl, by decide +kernel⟩
theorem Fp_6_3 : xFp 6 3 .int := fun C T N hC => by
  have h2 : (RX6, TX6, 5) = (C, T, N) := Option.some.inj hC
  cases h2
  exact ⟨rfl, by decide +kernel⟩
theorem Fp_6_1 : xFp 6 1 .int := fun C T N hC => by
  have h2 : (RX6, TX6, 5) = (C, T, N) := Option.some.inj hC
  cases h2
  exact ⟨rfl, by decide +kernel⟩
theorem Fp_6_4 : xFp 6 4 .int := fun C T N hC => by
  have h2 : (RX6, TX6, 5) = (C, T, N) := Option.some.inj hC
  cases h2
  exact ⟨rfl, by decide +kernel⟩
theorem Fp_8_0 : xFp 8 0 .int := fun C T N hC => by
  have h2 : (RX8, TX8, 35) = (C, T, N) := Option.some.inj hC
  cases h2
  exact ⟨rfl, by decide +kernel⟩
theorem Fp_8_2 : xFp 8 2 .int := fun C T N hC => by
  have h2 : (RX8, TX8, 35) = (C, T, N) := Option.some.inj hC
  cases h2
  exact ⟨rfl, by decide +kernel⟩
theorem Fp_8_15 : xFp 8 15 .int := fun C T N hC => by
  have h2 : (RX8, TX8, 35) = (C, T, N) := Option.some.inj hC
  cases h2
  exact ⟨rfl, by decide +kernel⟩
theorem Fp_8_1 : xFp 8 1 .int := fun C T N hC => by
  have h2 : (RX8, TX8, 35) = (C, T, N) := Option.some.inj hC
  cases h2
  exact ⟨rfl, by decide +kernel⟩
theorem Fp_8_3 : xFp 8 3 .int := fun C T N hC => by
  have h2 : (RX8, TX8, 35) = (C, T, N) := Option.some.inj hC
  cases h2
  exact ⟨rfl, by decide +kernel⟩
theorem Fp_8_9 : xFp 8 9 .int := fun C T N hC => by
  have h2 : (RX8, TX8, 35) = (C, T, N) := Option.some.inj hC
  cases h2
  exact ⟨rfl, by decide +kernel⟩
theorem Fp_8_11 : xFp 8 11 .int := fun C T N hC => by
  have h2 : (RX8, TX8, 35) = (C, T, N) := Option.some.inj hC
  cases h2
  exact ⟨rfl, by decide +kernel⟩
theorem Fp_8_14 : xFp 8 14 .int := fun C T N hC => by
  have h2 : (RX8, TX8, 35) = (C, T, N) := Option.some.inj hC
  cases h2
  exact ⟨rfl, by decide +kernel⟩
theorem Fp_8_16 : xFp 8 16 .int := fun C T N hC => by
  have h2 : (RX8, TX8, 35) = (C, T, N) := Option.some.inj hC
  cases h2
  exact ⟨rfl, by decide +kernel⟩
theorem Fp_8_17 : xFp 8 17 .long := fun C T N hC => by
  have h2 : (RX8, TX8, 35) = (C, T, N) := Option.some.inj hC
  cases h2
  exact ⟨rfl, by decide +kernel⟩
theorem Fp_8_18 : xFp 8 18 .int := fun C T N hC => by
  have h2 : (RX8, TX8, 35) = (C, T, N) := Option.some.inj hC
  cases h2
  exact ⟨rfl, by decide +kernel⟩
theorem Fp_8_19 : xFp 8 19 .int := fun C T N hC => by
  have h2 : (RX8, TX8, 35) = (C, T, N) := Option.some.inj hC
  cases h2
  exact ⟨rfl, by decide +kernel⟩
theorem Fp_8_20 : xFp 8 20 .int := fun C T N hC => by
  have h2 : (RX8, TX8, 35) = (C, T, N) := Option.some.inj hC
  cases h2
  exact ⟨rfl, by decide +kernel⟩
theorem Fp_8_23 : xFp 8 23 .int := fun C T N hC => by
  have h2 : (RX8, TX8, 35) = (C, T, N) := Option.some.inj hC
  cases h2
  exact ⟨rfl, by decide +kernel⟩
theorem Fp_8_26 : xFp 8 26 .boolean := fun C T N hC => by
  have h2 : (RX8, TX8, 35) = (C, T, N) := Option.some.inj hC
  cases h2
  exact ⟨rfl, by decide +kernel⟩
theorem Fp_8_25 : xFp 8 25 .int := fun C T N hC => by
  have h2 : (RX8, TX8, 35) = (C, T, N) := Option.some.inj hC
  cases h2
  exact ⟨rfl, by decide +kernel⟩
theorem Fp_8_31 : xFp 8 31 .int := fun C T N hC => by
  have h2 : (RX8, TX8, 35) = (C, T, N) := Option.some.inj hC
  cases h2
  exact ⟨rfl, by decide +kernel⟩
theorem Fp_8_32 : xFp 8 32 .int := fun C T N hC => by
  have h2 : (RX8, TX8, 35) = (C, T, N) := Option.some.inj hC
  cases h2
  exact ⟨rfl, by decide +kernel⟩
theorem Fp_8_33 : xFp 8 33 .int := fun C T N hC => by
  have h2 : (RX8, TX8, 35) = (C, T, N) := Option.some.inj hC
  cases h2
  exact ⟨rfl, by decide +kernel⟩
theorem Fp_8_34 : xFp 8 34 .long := fun C T N hC => by
  have h2 : (RX8, TX8, 35) = (C, T, N) := Option.some.inj hC
  cases h2
  exact ⟨rfl, by decide +kernel⟩
theorem K_J13_314 : Cond.constantLong RJ13 314 (6148914691236517205) ∈ xtb := x_in 545 (by decide +kernel) rfl
theorem K_J13_316 : Cond.constantLong RJ13 316 (3689348814741910323) ∈ xtb := x_in 546 (by decide +kernel) rfl
theorem K_J13_318 : Cond.constantLong RJ13 318 (1085102592571150095) ∈ xtb := x_in 547 (by decide +kernel) rfl
theorem K_J6_265 : Cond.constant RJ6 265 (1431655765) ∈ xtb := x_in 386 (by decide +kernel) rfl
theorem K_J6_266 : Cond.constant RJ6 266 (858993459) ∈ xtb := x_in 387 (by decide +kernel) rfl
theorem K_J6_267 : Cond.constant RJ6 267 (252645135) ∈ xtb := x_in 388 (by decide +kernel) rfl
theorem K_X0_38 : Cond.constantLong RX0 38 (-1) ∈ xtb := x_in 831 (by decide +kernel) rfl
theorem K_X2_74 : Cond.constantLong RX2 74 (-1) ∈ xtb := x_in 541 (by decide +kernel) rfl
theorem K_X3_30 : Cond.constantLong RX3 30 (-1) ∈ xtb := x_in 484 (by decide +kernel) rfl
theorem K_X5_136 : Cond.constantLong RX5 136 (-2) ∈ xtb := x_in 749 (by decide +kernel) rfl
theorem K_X7_212 : Cond.constantLong RX7 212 (-1001) ∈ xtb := x_in 793 (by decide +kernel) rfl
theorem K_X8_74 : Cond.constantLong RX8 74 (5) ∈ xtb := x_in 1100 (by decide +kernel) rfl
theorem K_X8_80 : Cond.constantLong RX8 80 (2) ∈ xtb := x_in 1013 (by decide +kernel) rfl
theorem K_X8_82 : Cond.constantLong RX8 82 (12) ∈ xtb := x_in 1014 (by decide +kernel) rfl
theorem K_X8_84 : Cond.constantLong RX8 84 (3) ∈ xtb := x_in 1022 (by decide +kernel) rfl
theorem K_X8_86 : Cond.constantLong RX8 86 (4) ∈ xtb := x_in 1023 (by decide +kernel) rfl
theorem K_X8_151 : Cond.constantLong RX8 151 (4095) ∈ xtb := x_in 1137 (by decide +kernel) rfl
theorem K_X8_153 : Cond.constantLong RX8 153 (64) ∈ xtb := x_in 1138 (by decide +kernel) rfl
theorem K_X8_164 : Cond.constantLong RX8 164 (-1) ∈ xtb := x_in 1147 (by decide +kernel) rfl
theorem K_X8_179 : Cond.constantLong RX8 179 (8) ∈ xtb := x_in 1191 (by decide +kernel) rfl
theorem K_X8_184 : Cond.constantLong RX8 184 (255) ∈ xtb := x_in 1192 (by decide +kernel) rfl
theorem K_X8_200 : Cond.constantLong RX8 200 (97) ∈ xtb := x_in 1209 (by decide +kernel) rfl
theorem K_X8_202 : Cond.constantLong RX8 202 (122) ∈ xtb := x_in 1210 (by decide +kernel) rfl
theorem K_X8_204 : Cond.constantLong RX8 204 (10000000000) ∈ xtb := x_in 1211 (by decide +kernel) rfl
theorem K_X8_206 : Cond.constantLong RX8 206 (20000000000) ∈ xtb := x_in 1212 (by decide +kernel) rfl
theorem K_X8_208 : Cond.constantLong RX8 208 (27) ∈ xtb := x_in 1213 (by decide +kernel) rfl
theorem K_X8_210 : Cond.constantLong RX8 210 (96) ∈ xtb := x_in 1214 (by decide +kernel) rfl
theorem K_X8_212 : Cond.constantLong RX8 212 (48) ∈ xtb := x_in 1238 (by decide +kernel) rfl
theorem K_X8_214 : Cond.constantLong RX8 214 (57) ∈ xtb := x_in 1239 (by decide +kernel) rfl
theorem K_X8_275 : Cond.constantLong RX8 275 (9) ∈ xtb := x_in 1280 (by decide +kernel) rfl
theorem K_X8_281 : Cond.constantLong RX8 281 (-1001) ∈ xtb := x_in 1289 (by decide +kernel) rfl
def xCN (own : String) (index : Nat) : Prop := Cond.methodLink own index arraycopyName ∈ xtb ∧ Cond.native arraycopyName ∈ xtb ∧ Cond.static arraycopyName ∈ xtb ∧ Cond.initialized "java/lang/System" ∈ xtb
def xCM (own : String) (index : Nat) (y : MethodName) (cc : ByteArray) : Prop := Cond.methodLink own index y ∈ xtb ∧ Cond.static y ∈ xtb ∧ Cond.initialized "java/lang/Math" ∈ xtb ∧ Cond.code y cc 2 (some .int) ∈ xtb
theorem C_X0_40 : xCV RX0 40 yX0_tally M_X0_tally 4 := ⟨x_in 832 (by decide +kernel) rfl, x_in 834 (by decide +kernel) rfl, x_in 29 (by decide +kernel) rfl, x_in 86 (by decide +kernel) rfl, x_in 835 (by decide +kernel) rfl, by decide +kernel⟩
theorem C_X0_44 : xCV RX0 44 yX0_searchPairs M_X0_searchPairs 0 := ⟨x_in 836 (by decide +kernel) rfl, x_in 838 (by decide +kernel) rfl, x_in 30 (by decide +kernel) rfl, x_in 86 (by decide +kernel) rfl, x_in 839 (by decide +kernel) rfl, by decide +kernel⟩
theorem C_X0_47 : xCV RX0 47 yX0_searchTriples M_X0_searchTriples 0 := ⟨x_in 840 (by decide +kernel) rfl, x_in 842 (by decide +kernel) rfl, x_in 31 (by decide +kernel) rfl, x_in 86 (by decide +kernel) rfl, x_in 843 (by decide +kernel) rfl, by decide +kernel⟩
theorem C_X0_50 : xCV RX0 50 yX0_canReach M_X0_canReach 3 := ⟨x_in 889 (by decide +kernel) rfl, x_in 891 (by decide +kernel) rfl, x_in 35 (by decide +kernel) rfl, x_in 86 (by decide +kernel) rfl, x_in 892 (by decide +kernel) rfl, by decide +kernel⟩
theorem C_X1_24 : xCV RX1 24 yX1_all M_X1_all 0 := ⟨x_in 362 (by decide +kernel) rfl, x_in 363 (by decide +kernel) rfl, x_in 364 (by decide +kernel) rfl, x_in 79 (by decide +kernel) rfl, x_in 365 (by decide +kernel) rfl, by decide +kernel⟩
theorem C_X1_28 : xCV RX1 28 yX1_isSet M_X1_isSet 1 := ⟨x_in 378 (by decide +kernel) rfl, x_in 359 (by decide +kernel) rfl, x_in 360 (by decide +kernel) rfl, x_in 79 (by decide +kernel) rfl, x_in 361 (by decide +kernel) rfl, by decide +kernel⟩
theorem C_X1_32 : xCS RX1 32 yJ6_bitCount_0f7a4 M_J6_bitCount_0f7a4 1 := ⟨x_in 383 (by decide +kernel) rfl, x_in 384 (by decide +kernel) rfl, x_in 88 (by decide +kernel) rfl, x_in 385 (by decide +kernel) rfl, by decide +kernel⟩
theorem C_X1_38 : xCV RX1 38 yX1_strays M_X1_strays 2 := ⟨x_in 389 (by decide +kernel) rfl, x_in 391 (by decide +kernel) rfl, x_in 0 (by decide +kernel) rfl, x_in 79 (by decide +kernel) rfl, x_in 392 (by decide +kernel) rfl, by decide +kernel⟩
theorem C_X1_42 : xCV RX1 42 yX1_reversed M_X1_reversed 1 := ⟨x_in 397 (by decide +kernel) rfl, x_in 367 (by decide +kernel) rfl, x_in 368 (by decide +kernel) rfl, x_in 79 (by decide +kernel) rfl, x_in 369 (by decide +kernel) rfl, by decide +kernel⟩
theorem C_X1_45 : xCV RX1 45 yX1_extra M_X1_extra 0 := ⟨x_in 393 (by decide +kernel) rfl, x_in 395 (by decide +kernel) rfl, x_in 1 (by decide +kernel) rfl, x_in 79 (by decide +kernel) rfl, x_in 396 (by decide +kernel) rfl, by decide +kernel⟩
theorem C_X1_48 : xCV RX1 48 yX1_near M_X1_near 2 := ⟨x_in 410 (by decide +kernel) rfl, x_in 412 (by decide +kernel) rfl, x_in 3 (by decide +kernel) rfl, x_in 79 (by decide +kernel) rfl, x_in 413 (by decide +kernel) rfl, by decide +kernel⟩
theorem C_X1_51 : xCV RX1 51 yX1_alike M_X1_alike 3 := ⟨x_in 431 (by decide +kernel) rfl, x_in 432 (by decide +kernel) rfl, x_in 433 (by decide +kernel) rfl, x_in 79 (by decide +kernel) rfl, x_in 434 (by decide +kernel) rfl, by decide +kernel⟩
theorem C_X1_55 : xCV RX1 55 yX1_leastSeen M_X1_leastSeen 2 := ⟨x_in 406 (by decide +kernel) rfl, x_in 408 (by decide +kernel) rfl, x_in 2 (by decide +kernel) rfl, x_in 79 (by decide +kernel) rfl, x_in 409 (by decide +kernel) rfl, by decide +kernel⟩
theorem C_X1_59 : xCS RX1 59 yX1_lesser M_X1_lesser 2 := ⟨x_in 418 (by decide +kernel) rfl, x_in 419 (by decide +kernel) rfl, x_in 79 (by decide +kernel) rfl, x_in 420 (by decide +kernel) rfl, by decide +kernel⟩
theorem C_X1_62 : xCM RX1 62 Lib.Math.max.name Lib.Math.max.code := ⟨x_in 421 (by decide +kernel) rfl, x_in 422 (by decide +kernel) rfl, x_in 89 (by decide +kernel) rfl, x_in 423 (by decide +kernel) rfl⟩
theorem C_X1_67 : xCM RX1 67 Lib.Math.min.name Lib.Math.min.code := ⟨x_in 424 (by decide +kernel) rfl, x_in 425 (by decide +kernel) rfl, x_in 89 (by decide +kernel) rfl, x_in 426 (by decide +kernel) rfl⟩
theorem C_X1_70 : xCV RX1 70 yX1_canEnd M_X1_canEnd 4 := ⟨x_in 414 (by decide +kernel) rfl, x_in 416 (by decide +kernel) rfl, x_in 4 (by decide +kernel) rfl, x_in 79 (by decide +kernel) rfl, x_in 417 (by decide +kernel) rfl, by decide +kernel⟩
theorem C_X1_74 : xCV RX1 74 yX1_sights M_X1_sights 2 := ⟨x_in 443 (by decide +kernel) rfl, x_in 445 (by decide +kernel) rfl, x_in 5 (by decide +kernel) rfl, x_in 79 (by decide +kernel) rfl, x_in 446 (by decide +kernel) rfl, by decide +kernel⟩
theorem C_X1_77 : xCS RX1 77 yX1_upTo M_X1_upTo 2 := ⟨x_in 447 (by decide +kernel) rfl, x_in 448 (by decide +kernel) rfl, x_in 79 (by decide +kernel) rfl, x_in 449 (by decide +kernel) rfl, by decide +kernel⟩
theorem C_X1_80 : xCV RX1 80 yX1_sightsBothWays M_X1_sightsBothWays 2 := ⟨x_in 453 (by decide +kernel) rfl, x_in 455 (by decide +kernel) rfl, x_in 6 (by decide +kernel) rfl, x_in 79 (by decide +kernel) rfl, x_in 456 (by decide +kernel) rfl, by decide +kernel⟩
theorem C_X1_83 : xCS RX1 83 yX1_choose M_X1_choose 2 := ⟨x_in 450 (by decide +kernel) rfl, x_in 451 (by decide +kernel) rfl, x_in 79 (by decide +kernel) rfl, x_in 452 (by decide +kernel) rfl, by decide +kernel⟩
theorem C_X2_33 : xCV RX2 33 yX1_all M_X1_all 0 := ⟨x_in 522 (by decide +kernel) rfl, x_in 363 (by decide +kernel) rfl, x_in 364 (by decide +kernel) rfl, x_in 79 (by decide +kernel) rfl, x_in 365 (by decide +kernel) rfl, by decide +kernel⟩
theorem C_X2_39 : xCM RX2 39 Lib.Math.min.name Lib.Math.min.code := ⟨x_in 523 (by decide +kernel) rfl, x_in 425 (by decide +kernel) rfl, x_in 89 (by decide +kernel) rfl, x_in 426 (by decide +kernel) rfl⟩
theorem C_X2_45 : xCS RX2 45 yX2_marksWith M_X2_marksWith 2 := ⟨x_in 524 (by decide +kernel) rfl, x_in 525 (by decide +kernel) rfl, x_in 85 (by decide +kernel) rfl, x_in 526 (by decide +kernel) rfl, by decide +kernel⟩
theorem C_X2_49 : xCS RX2 49 yX2_apartAbove M_X2_apartAbove 4 := ⟨x_in 528 (by decide +kernel) rfl, x_in 529 (by decide +kernel) rfl, x_in 85 (by decide +kernel) rfl, x_in 530 (by decide +kernel) rfl, by decide +kernel⟩
theorem C_X2_53 : xCV RX2 53 yX2_canPick M_X2_canPick 4 := ⟨x_in 533 (by decide +kernel) rfl, x_in 535 (by decide +kernel) rfl, x_in 10 (by decide +kernel) rfl, x_in 85 (by decide +kernel) rfl, x_in 536 (by decide +kernel) rfl, by decide +kernel⟩
theorem C_X2_57 : xCS RX2 57 yJ6_bitCount_0f7a4 M_J6_bitCount_0f7a4 1 := ⟨x_in 527 (by decide +kernel) rfl, x_in 384 (by decide +kernel) rfl, x_in 88 (by decide +kernel) rfl, x_in 385 (by decide +kernel) rfl, by decide +kernel⟩
theorem C_X2_63 : xCV RX2 63 yX1_reversed M_X1_reversed 1 := ⟨x_in 531 (by decide +kernel) rfl, x_in 367 (by decide +kernel) rfl, x_in 368 (by decide +kernel) rfl, x_in 79 (by decide +kernel) rfl, x_in 369 (by decide +kernel) rfl, by decide +kernel⟩
theorem C_X2_66 : xCV RX2 66 yX1_alike M_X1_alike 3 := ⟨x_in 532 (by decide +kernel) rfl, x_in 432 (by decide +kernel) rfl, x_in 433 (by decide +kernel) rfl, x_in 79 (by decide +kernel) rfl, x_in 434 (by decide +kernel) rfl, by decide +kernel⟩
theorem C_X2_70 : xCV RX2 70 yX2_canStandForAny M_X2_canStandForAny 2 := ⟨x_in 537 (by decide +kernel) rfl, x_in 539 (by decide +kernel) rfl, x_in 11 (by decide +kernel) rfl, x_in 85 (by decide +kernel) rfl, x_in 540 (by decide +kernel) rfl, by decide +kernel⟩
theorem C_X2_76 : xCS RX2 76 yJ13_bitCount_95d88 M_J13_bitCount_95d88 1 := ⟨x_in 542 (by decide +kernel) rfl, x_in 543 (by decide +kernel) rfl, x_in 91 (by decide +kernel) rfl, x_in 544 (by decide +kernel) rfl, by decide +kernel⟩
theorem C_X3_23 : xCV RX3 23 yX3_holds M_X3_holds 1 := ⟨x_in 568 (by decide +kernel) rfl, x_in 465 (by decide +kernel) rfl, x_in 466 (by decide +kernel) rfl, x_in 80 (by decide +kernel) rfl, x_in 467 (by decide +kernel) rfl, by decide +kernel⟩
theorem C_X3_27 : xCV RX3 27 yX3_append M_X3_append 1 := ⟨x_in 569 (by decide +kernel) rfl, x_in 469 (by decide +kernel) rfl, x_in 470 (by decide +kernel) rfl, x_in 80 (by decide +kernel) rfl, x_in 471 (by decide +kernel) rfl, by decide +kernel⟩
theorem C_X3_32 : xCN RX3 32 := ⟨x_in 485 (by decide +kernel) rfl, x_in 487 (by decide +kernel) rfl, x_in 486 (by decide +kernel) rfl, x_in 90 (by decide +kernel) rfl⟩
theorem C_X3_38 : xCS RX3 38 yJ7_fill_d0a16 M_J7_fill_d0a16 2 := ⟨x_in 332 (by decide +kernel) rfl, x_in 333 (by decide +kernel) rfl, x_in 82 (by decide +kernel) rfl, x_in 334 (by decide +kernel) rfl, by decide +kernel⟩
theorem C_X4_23 : xCS RX4 23 yJ7_fill_53178 M_J7_fill_53178 2 := ⟨x_in 156 (by decide +kernel) rfl, x_in 157 (by decide +kernel) rfl, x_in 82 (by decide +kernel) rfl, x_in 158 (by decide +kernel) rfl, by decide +kernel⟩
theorem C_X4_37 : xCV RX4 37 yX4_chanceOf M_X4_chanceOf 1 := ⟨x_in 802 (by decide +kernel) rfl, x_in 790 (by decide +kernel) rfl, x_in 791 (by decide +kernel) rfl, x_in 81 (by decide +kernel) rfl, x_in 792 (by decide +kernel) rfl, by decide +kernel⟩
theorem C_X4_41 : xCV RX4 41 yX4_ahead M_X4_ahead 1 := ⟨x_in 811 (by decide +kernel) rfl, x_in 813 (by decide +kernel) rfl, x_in 28 (by decide +kernel) rfl, x_in 81 (by decide +kernel) rfl, x_in 814 (by decide +kernel) rfl, by decide +kernel⟩
theorem C_X5_50 : xCV RX5 50 yX5_begin M_X5_begin 1 := ⟨x_in 615 (by decide +kernel) rfl, x_in 617 (by decide +kernel) rfl, x_in 14 (by decide +kernel) rfl, x_in 84 (by decide +kernel) rfl, x_in 618 (by decide +kernel) rfl, by decide +kernel⟩
theorem C_X5_54 : xCV RX5 54 yX6_rewind M_X6_rewind 0 := ⟨x_in 619 (by decide +kernel) rfl, x_in 620 (by decide +kernel) rfl, x_in 621 (by decide +kernel) rfl, x_in 83 (by decide +kernel) rfl, x_in 622 (by decide +kernel) rfl, by decide +kernel⟩
theorem C_X5_60 : xCV RX5 60 yX5_takeTest M_X5_takeTest 1 := ⟨x_in 630 (by decide +kernel) rfl, x_in 632 (by decide +kernel) rfl, x_in 15 (by decide +kernel) rfl, x_in 84 (by decide +kernel) rfl, x_in 633 (by decide +kernel) rfl, by decide +kernel⟩
theorem C_X5_64 : xCV RX5 64 yX5_takeJoint M_X5_takeJoint 1 := ⟨x_in 735 (by decide +kernel) rfl, x_in 737 (by decide +kernel) rfl, x_in 24 (by decide +kernel) rfl, x_in 84 (by decide +kernel) rfl, x_in 738 (by decide +kernel) rfl, by decide +kernel⟩
theorem C_X5_67 : xCV RX5 67 yX5_blame M_X5_blame 2 := ⟨x_in 696 (by decide +kernel) rfl, x_in 698 (by decide +kernel) rfl, x_in 17 (by decide +kernel) rfl, x_in 84 (by decide +kernel) rfl, x_in 699 (by decide +kernel) rfl, by decide +kernel⟩
theorem C_X5_71 : xCV RX5 71 yX5_end M_X5_end 0 := ⟨x_in 741 (by decide +kernel) rfl, x_in 743 (by decide +kernel) rfl, x_in 25 (by decide +kernel) rfl, x_in 84 (by decide +kernel) rfl, x_in 744 (by decide +kernel) rfl, by decide +kernel⟩
theorem C_X5_77 : xCV RX5 77 yX5_put M_X5_put 3 := ⟨x_in 718 (by decide +kernel) rfl, x_in 720 (by decide +kernel) rfl, x_in 21 (by decide +kernel) rfl, x_in 84 (by decide +kernel) rfl, x_in 721 (by decide +kernel) rfl, by decide +kernel⟩
theorem C_X5_83 : xCV RX5 83 yX6_isWord M_X6_isWord 1 := ⟨x_in 635 (by decide +kernel) rfl, x_in 636 (by decide +kernel) rfl, x_in 637 (by decide +kernel) rfl, x_in 83 (by decide +kernel) rfl, x_in 638 (by decide +kernel) rfl, by decide +kernel⟩
theorem C_X5_87 : xCV RX5 87 yX6_advance M_X6_advance 0 := ⟨x_in 687 (by decide +kernel) rfl, x_in 624 (by decide +kernel) rfl, x_in 625 (by decide +kernel) rfl, x_in 83 (by decide +kernel) rfl, x_in 626 (by decide +kernel) rfl, by decide +kernel⟩
theorem C_X5_90 : xCV RX5 90 yX6_isSign M_X6_isSign 1 := ⟨x_in 688 (by decide +kernel) rfl, x_in 689 (by decide +kernel) rfl, x_in 690 (by decide +kernel) rfl, x_in 83 (by decide +kernel) rfl, x_in 691 (by decide +kernel) rfl, by decide +kernel⟩
theorem C_X5_94 : xCV RX5 94 yX5_takeOpening M_X5_takeOpening 1 := ⟨x_in 692 (by decide +kernel) rfl, x_in 694 (by decide +kernel) rfl, x_in 16 (by decide +kernel) rfl, x_in 84 (by decide +kernel) rfl, x_in 695 (by decide +kernel) rfl, by decide +kernel⟩
theorem C_X5_97 : xCV RX5 97 yX5_takeWord M_X5_takeWord 1 := ⟨x_in 700 (by decide +kernel) rfl, x_in 702 (by decide +kernel) rfl, x_in 18 (by decide +kernel) rfl, x_in 84 (by decide +kernel) rfl, x_in 703 (by decide +kernel) rfl, by decide +kernel⟩
theorem C_X5_100 : xCV RX5 100 yX5_endTest M_X5_endTest 0 := ⟨x_in 731 (by decide +kernel) rfl, x_in 733 (by decide +kernel) rfl, x_in 23 (by decide +kernel) rfl, x_in 84 (by decide +kernel) rfl, x_in 734 (by decide +kernel) rfl, by decide +kernel⟩
theorem C_X5_105 : xCV RX5 105 yX5_takeSum M_X5_takeSum 1 := ⟨x_in 705 (by decide +kernel) rfl, x_in 707 (by decide +kernel) rfl, x_in 19 (by decide +kernel) rfl, x_in 84 (by decide +kernel) rfl, x_in 708 (by decide +kernel) rfl, by decide +kernel⟩
theorem C_X5_110 : xCV RX5 110 yX5_takeNumbered M_X5_takeNumbered 3 := ⟨x_in 723 (by decide +kernel) rfl, x_in 725 (by decide +kernel) rfl, x_in 22 (by decide +kernel) rfl, x_in 84 (by decide +kernel) rfl, x_in 726 (by decide +kernel) rfl, by decide +kernel⟩
theorem C_X5_126 : xCV RX5 126 yX5_takeNumber M_X5_takeNumber 3 := ⟨x_in 709 (by decide +kernel) rfl, x_in 711 (by decide +kernel) rfl, x_in 20 (by decide +kernel) rfl, x_in 84 (by decide +kernel) rfl, x_in 712 (by decide +kernel) rfl, by decide +kernel⟩
theorem C_X5_132 : xCV RX5 132 yX6_number M_X6_number 0 := ⟨x_in 713 (by decide +kernel) rfl, x_in 714 (by decide +kernel) rfl, x_in 715 (by decide +kernel) rfl, x_in 83 (by decide +kernel) rfl, x_in 716 (by decide +kernel) rfl, by decide +kernel⟩
theorem C_X5_138 : xCV RX5 138 yX5_passes M_X5_passes 4 := ⟨x_in 750 (by decide +kernel) rfl, x_in 752 (by decide +kernel) rfl, x_in 26 (by decide +kernel) rfl, x_in 84 (by decide +kernel) rfl, x_in 753 (by decide +kernel) rfl, by decide +kernel⟩
theorem C_X5_142 : xCS RX5 142 yJ6_bitCount_0f7a4 M_J6_bitCount_0f7a4 1 := ⟨x_in 754 (by decide +kernel) rfl, x_in 384 (by decide +kernel) rfl, x_in 88 (by decide +kernel) rfl, x_in 385 (by decide +kernel) rfl, by decide +kernel⟩
theorem C_X5_148 : xCS RX5 148 yX5_sumOf M_X5_sumOf 1 := ⟨x_in 755 (by decide +kernel) rfl, x_in 756 (by decide +kernel) rfl, x_in 84 (by decide +kernel) rfl, x_in 757 (by decide +kernel) rfl, by decide +kernel⟩
theorem C_X5_151 : xCV RX5 151 yX1_reversed M_X1_reversed 1 := ⟨x_in 758 (by decide +kernel) rfl, x_in 367 (by decide +kernel) rfl, x_in 368 (by decide +kernel) rfl, x_in 79 (by decide +kernel) rfl, x_in 369 (by decide +kernel) rfl, by decide +kernel⟩
theorem C_X5_156 : xCV RX5 156 yX3_holds M_X3_holds 1 := ⟨x_in 759 (by decide +kernel) rfl, x_in 465 (by decide +kernel) rfl, x_in 466 (by decide +kernel) rfl, x_in 80 (by decide +kernel) rfl, x_in 467 (by decide +kernel) rfl, by decide +kernel⟩
theorem C_X6_28 : xCV RX6 28 yX6_advance M_X6_advance 0 := ⟨x_in 623 (by decide +kernel) rfl, x_in 624 (by decide +kernel) rfl, x_in 625 (by decide +kernel) rfl, x_in 83 (by decide +kernel) rfl, x_in 626 (by decide +kernel) rfl, by decide +kernel⟩
theorem C_X6_31 : xCS RX6 31 yX6_kindOf M_X6_kindOf 1 := ⟨x_in 627 (by decide +kernel) rfl, x_in 628 (by decide +kernel) rfl, x_in 83 (by decide +kernel) rfl, x_in 629 (by decide +kernel) rfl, by decide +kernel⟩
theorem C_X6_35 : xCV RX6 35 yJ0_length_8abf5 M_J0_length_8abf5 0 := ⟨x_in 639 (by decide +kernel) rfl, x_in 640 (by decide +kernel) rfl, x_in 641 (by decide +kernel) rfl, x_in 92 (by decide +kernel) rfl, x_in 642 (by decide +kernel) rfl, by decide +kernel⟩
theorem C_X6_40 : xCV RX6 40 yJ0_charAt_5068e M_J0_charAt_5068e 1 := ⟨x_in 649 (by decide +kernel) rfl, x_in 650 (by decide +kernel) rfl, x_in 651 (by decide +kernel) rfl, x_in 92 (by decide +kernel) rfl, x_in 652 (by decide +kernel) rfl, by decide +kernel⟩
theorem C_X7_66 : xCV RX7 66 yX3_wipe M_X3_wipe 0 := ⟨x_in 328 (by decide +kernel) rfl, x_in 329 (by decide +kernel) rfl, x_in 330 (by decide +kernel) rfl, x_in 80 (by decide +kernel) rfl, x_in 331 (by decide +kernel) rfl, by decide +kernel⟩
theorem C_X7_69 : xCV RX7 69 yX4_forget M_X4_forget 0 := ⟨x_in 335 (by decide +kernel) rfl, x_in 336 (by decide +kernel) rfl, x_in 337 (by decide +kernel) rfl, x_in 81 (by decide +kernel) rfl, x_in 338 (by decide +kernel) rfl, by decide +kernel⟩
theorem C_X7_72 : xCV RX7 72 yX2_forget M_X2_forget 0 := ⟨x_in 339 (by decide +kernel) rfl, x_in 340 (by decide +kernel) rfl, x_in 341 (by decide +kernel) rfl, x_in 85 (by decide +kernel) rfl, x_in 342 (by decide +kernel) rfl, by decide +kernel⟩
theorem C_X7_73 : xCS RX7 73 yX7_within M_X7_within 3 := ⟨x_in 347 (by decide +kernel) rfl, x_in 348 (by decide +kernel) rfl, x_in 78 (by decide +kernel) rfl, x_in 349 (by decide +kernel) rfl, by decide +kernel⟩
theorem C_X7_86 : xCV RX7 86 yX1_isSet M_X1_isSet 1 := ⟨x_in 358 (by decide +kernel) rfl, x_in 359 (by decide +kernel) rfl, x_in 360 (by decide +kernel) rfl, x_in 79 (by decide +kernel) rfl, x_in 361 (by decide +kernel) rfl, by decide +kernel⟩
theorem C_X7_90 : xCV RX7 90 yX1_reversed M_X1_reversed 1 := ⟨x_in 366 (by decide +kernel) rfl, x_in 367 (by decide +kernel) rfl, x_in 368 (by decide +kernel) rfl, x_in 79 (by decide +kernel) rfl, x_in 369 (by decide +kernel) rfl, by decide +kernel⟩
theorem C_X7_94 : xCV RX7 94 yX1_isSeen M_X1_isSeen 2 := ⟨x_in 374 (by decide +kernel) rfl, x_in 375 (by decide +kernel) rfl, x_in 376 (by decide +kernel) rfl, x_in 79 (by decide +kernel) rfl, x_in 377 (by decide +kernel) rfl, by decide +kernel⟩
theorem C_X7_98 : xCV RX7 98 yX1_canShow M_X1_canShow 3 := ⟨x_in 379 (by decide +kernel) rfl, x_in 380 (by decide +kernel) rfl, x_in 381 (by decide +kernel) rfl, x_in 79 (by decide +kernel) rfl, x_in 382 (by decide +kernel) rfl, by decide +kernel⟩
theorem C_X7_101 : xCV RX7 101 yX1_witnessSeen M_X1_witnessSeen 2 := ⟨x_in 402 (by decide +kernel) rfl, x_in 403 (by decide +kernel) rfl, x_in 404 (by decide +kernel) rfl, x_in 79 (by decide +kernel) rfl, x_in 405 (by decide +kernel) rfl, by decide +kernel⟩
theorem C_X7_105 : xCV RX7 105 yX1_witnessLost M_X1_witnessLost 2 := ⟨x_in 427 (by decide +kernel) rfl, x_in 428 (by decide +kernel) rfl, x_in 429 (by decide +kernel) rfl, x_in 79 (by decide +kernel) rfl, x_in 430 (by decide +kernel) rfl, by decide +kernel⟩
theorem C_X7_108 : xCV RX7 108 yX1_sightsOf M_X1_sightsOf 1 := ⟨x_in 439 (by decide +kernel) rfl, x_in 440 (by decide +kernel) rfl, x_in 441 (by decide +kernel) rfl, x_in 79 (by decide +kernel) rfl, x_in 442 (by decide +kernel) rfl, by decide +kernel⟩
theorem C_X7_111 : xCS RX7 111 yX7_isList M_X7_isList 1 := ⟨x_in 461 (by decide +kernel) rfl, x_in 462 (by decide +kernel) rfl, x_in 78 (by decide +kernel) rfl, x_in 463 (by decide +kernel) rfl, by decide +kernel⟩
theorem C_X7_114 : xCV RX7 114 yX3_holds M_X3_holds 1 := ⟨x_in 464 (by decide +kernel) rfl, x_in 465 (by decide +kernel) rfl, x_in 466 (by decide +kernel) rfl, x_in 80 (by decide +kernel) rfl, x_in 467 (by decide +kernel) rfl, by decide +kernel⟩
theorem C_X7_117 : xCV RX7 117 yX3_append M_X3_append 1 := ⟨x_in 468 (by decide +kernel) rfl, x_in 469 (by decide +kernel) rfl, x_in 470 (by decide +kernel) rfl, x_in 80 (by decide +kernel) rfl, x_in 471 (by decide +kernel) rfl, by decide +kernel⟩
theorem C_X7_123 : xCV RX7 123 yX7_isMark M_X7_isMark 2 := ⟨x_in 476 (by decide +kernel) rfl, x_in 478 (by decide +kernel) rfl, x_in 7 (by decide +kernel) rfl, x_in 78 (by decide +kernel) rfl, x_in 479 (by decide +kernel) rfl, by decide +kernel⟩
theorem C_X7_126 : xCV RX7 126 yX3_remove M_X3_remove 1 := ⟨x_in 480 (by decide +kernel) rfl, x_in 481 (by decide +kernel) rfl, x_in 482 (by decide +kernel) rfl, x_in 80 (by decide +kernel) rfl, x_in 483 (by decide +kernel) rfl, by decide +kernel⟩
theorem C_X7_134 : xCV RX7 134 yX7_firstAlike M_X7_firstAlike 3 := ⟨x_in 500 (by decide +kernel) rfl, x_in 502 (by decide +kernel) rfl, x_in 8 (by decide +kernel) rfl, x_in 78 (by decide +kernel) rfl, x_in 503 (by decide +kernel) rfl, by decide +kernel⟩
theorem C_X7_138 : xCV RX7 138 yX7_ofBadPair M_X7_ofBadPair 4 := ⟨x_in 505 (by decide +kernel) rfl, x_in 507 (by decide +kernel) rfl, x_in 9 (by decide +kernel) rfl, x_in 78 (by decide +kernel) rfl, x_in 508 (by decide +kernel) rfl, by decide +kernel⟩
theorem C_X7_142 : xCV RX7 142 yX1_all M_X1_all 0 := ⟨x_in 513 (by decide +kernel) rfl, x_in 363 (by decide +kernel) rfl, x_in 364 (by decide +kernel) rfl, x_in 79 (by decide +kernel) rfl, x_in 365 (by decide +kernel) rfl, by decide +kernel⟩
theorem C_X7_146 : xCV RX7 146 yX2_seek M_X2_seek 2 := ⟨x_in 518 (by decide +kernel) rfl, x_in 519 (by decide +kernel) rfl, x_in 520 (by decide +kernel) rfl, x_in 85 (by decide +kernel) rfl, x_in 521 (by decide +kernel) rfl, by decide +kernel⟩
theorem C_X7_154 : xCV RX7 154 yX1_leastSights M_X1_leastSights 0 := ⟨x_in 552 (by decide +kernel) rfl, x_in 553 (by decide +kernel) rfl, x_in 554 (by decide +kernel) rfl, x_in 79 (by decide +kernel) rfl, x_in 555 (by decide +kernel) rfl, by decide +kernel⟩
theorem C_X7_157 : xCV RX7 157 yX1_allSights M_X1_allSights 0 := ⟨x_in 556 (by decide +kernel) rfl, x_in 557 (by decide +kernel) rfl, x_in 558 (by decide +kernel) rfl, x_in 79 (by decide +kernel) rfl, x_in 559 (by decide +kernel) rfl, by decide +kernel⟩
theorem C_X7_160 : xCV RX7 160 yX3_appendOnce M_X3_appendOnce 1 := ⟨x_in 564 (by decide +kernel) rfl, x_in 565 (by decide +kernel) rfl, x_in 566 (by decide +kernel) rfl, x_in 80 (by decide +kernel) rfl, x_in 567 (by decide +kernel) rfl, by decide +kernel⟩
theorem C_X7_163 : xCV RX7 163 yX7_becomesFresh M_X7_becomesFresh 1 := ⟨x_in 570 (by decide +kernel) rfl, x_in 572 (by decide +kernel) rfl, x_in 12 (by decide +kernel) rfl, x_in 78 (by decide +kernel) rfl, x_in 573 (by decide +kernel) rfl, by decide +kernel⟩
theorem C_X7_166 : xCV RX7 166 yX3_copy M_X3_copy 1 := ⟨x_in 574 (by decide +kernel) rfl, x_in 575 (by decide +kernel) rfl, x_in 576 (by decide +kernel) rfl, x_in 80 (by decide +kernel) rfl, x_in 577 (by decide +kernel) rfl, by decide +kernel⟩
theorem C_X7_170 : xCV RX7 170 yX7_isPlace M_X7_isPlace 1 := ⟨x_in 586 (by decide +kernel) rfl, x_in 588 (by decide +kernel) rfl, x_in 13 (by decide +kernel) rfl, x_in 78 (by decide +kernel) rfl, x_in 589 (by decide +kernel) rfl, by decide +kernel⟩
theorem C_X7_173 : xCS RX7 173 yJ6_bitCount_0f7a4 M_J6_bitCount_0f7a4 1 := ⟨x_in 598 (by decide +kernel) rfl, x_in 384 (by decide +kernel) rfl, x_in 88 (by decide +kernel) rfl, x_in 385 (by decide +kernel) rfl, by decide +kernel⟩
theorem C_X7_178 : xCV RX7 178 yX6_take M_X6_take 2 := ⟨x_in 603 (by decide +kernel) rfl, x_in 604 (by decide +kernel) rfl, x_in 605 (by decide +kernel) rfl, x_in 83 (by decide +kernel) rfl, x_in 606 (by decide +kernel) rfl, by decide +kernel⟩
theorem C_X7_185 : xCV RX7 185 yX5_parse M_X5_parse 1 := ⟨x_in 611 (by decide +kernel) rfl, x_in 612 (by decide +kernel) rfl, x_in 613 (by decide +kernel) rfl, x_in 84 (by decide +kernel) rfl, x_in 614 (by decide +kernel) rfl, by decide +kernel⟩
theorem C_X7_192 : xCV RX7 192 yX5_suits M_X5_suits 3 := ⟨x_in 745 (by decide +kernel) rfl, x_in 746 (by decide +kernel) rfl, x_in 747 (by decide +kernel) rfl, x_in 84 (by decide +kernel) rfl, x_in 748 (by decide +kernel) rfl, by decide +kernel⟩
theorem C_X7_199 : xCV RX7 199 yX7_marksInAll M_X7_marksInAll 0 := ⟨x_in 769 (by decide +kernel) rfl, x_in 771 (by decide +kernel) rfl, x_in 27 (by decide +kernel) rfl, x_in 78 (by decide +kernel) rfl, x_in 772 (by decide +kernel) rfl, by decide +kernel⟩
theorem C_X7_202 : xCV RX7 202 yX4_lookedAt M_X4_lookedAt 0 := ⟨x_in 773 (by decide +kernel) rfl, x_in 774 (by decide +kernel) rfl, x_in 775 (by decide +kernel) rfl, x_in 81 (by decide +kernel) rfl, x_in 776 (by decide +kernel) rfl, by decide +kernel⟩
theorem C_X7_208 : xCV RX7 208 yX4_chanceOf M_X4_chanceOf 1 := ⟨x_in 789 (by decide +kernel) rfl, x_in 790 (by decide +kernel) rfl, x_in 791 (by decide +kernel) rfl, x_in 81 (by decide +kernel) rfl, x_in 792 (by decide +kernel) rfl, by decide +kernel⟩
theorem C_X7_214 : xCV RX7 214 yX4_weigh M_X4_weigh 1 := ⟨x_in 798 (by decide +kernel) rfl, x_in 799 (by decide +kernel) rfl, x_in 800 (by decide +kernel) rfl, x_in 81 (by decide +kernel) rfl, x_in 801 (by decide +kernel) rfl, by decide +kernel⟩
theorem C_X7_217 : xCV RX7 217 yX4_possible M_X4_possible 0 := ⟨x_in 803 (by decide +kernel) rfl, x_in 804 (by decide +kernel) rfl, x_in 805 (by decide +kernel) rfl, x_in 81 (by decide +kernel) rfl, x_in 806 (by decide +kernel) rfl, by decide +kernel⟩
theorem C_X7_220 : xCV RX7 220 yX4_ranked M_X4_ranked 1 := ⟨x_in 807 (by decide +kernel) rfl, x_in 808 (by decide +kernel) rfl, x_in 809 (by decide +kernel) rfl, x_in 81 (by decide +kernel) rfl, x_in 810 (by decide +kernel) rfl, by decide +kernel⟩
theorem C_X7_223 : xCV RX7 223 yX0_start M_X0_start 1 := ⟨x_in 819 (by decide +kernel) rfl, x_in 820 (by decide +kernel) rfl, x_in 821 (by decide +kernel) rfl, x_in 86 (by decide +kernel) rfl, x_in 822 (by decide +kernel) rfl, by decide +kernel⟩
theorem C_X7_226 : xCV RX7 226 yX0_offer M_X0_offer 2 := ⟨x_in 823 (by decide +kernel) rfl, x_in 824 (by decide +kernel) rfl, x_in 825 (by decide +kernel) rfl, x_in 86 (by decide +kernel) rfl, x_in 826 (by decide +kernel) rfl, by decide +kernel⟩
theorem C_X7_230 : xCV RX7 230 yX0_search M_X0_search 1 := ⟨x_in 827 (by decide +kernel) rfl, x_in 828 (by decide +kernel) rfl, x_in 829 (by decide +kernel) rfl, x_in 86 (by decide +kernel) rfl, x_in 830 (by decide +kernel) rfl, by decide +kernel⟩
theorem C_X7_239 : xCV RX7 239 yX0_firstAt M_X0_firstAt 1 := ⟨x_in 844 (by decide +kernel) rfl, x_in 845 (by decide +kernel) rfl, x_in 846 (by decide +kernel) rfl, x_in 86 (by decide +kernel) rfl, x_in 847 (by decide +kernel) rfl, by decide +kernel⟩
theorem C_X7_242 : xCV RX7 242 yX7_isMarkOrNone M_X7_isMarkOrNone 2 := ⟨x_in 852 (by decide +kernel) rfl, x_in 854 (by decide +kernel) rfl, x_in 32 (by decide +kernel) rfl, x_in 78 (by decide +kernel) rfl, x_in 855 (by decide +kernel) rfl, by decide +kernel⟩
theorem C_X7_245 : xCV RX7 245 yX1_agreement M_X1_agreement 2 := ⟨x_in 856 (by decide +kernel) rfl, x_in 857 (by decide +kernel) rfl, x_in 858 (by decide +kernel) rfl, x_in 79 (by decide +kernel) rfl, x_in 859 (by decide +kernel) rfl, by decide +kernel⟩
theorem C_X7_248 : xCV RX7 248 yX7_findRings M_X7_findRings 3 := ⟨x_in 864 (by decide +kernel) rfl, x_in 866 (by decide +kernel) rfl, x_in 33 (by decide +kernel) rfl, x_in 78 (by decide +kernel) rfl, x_in 867 (by decide +kernel) rfl, by decide +kernel⟩
theorem C_X7_256 : xCS RX7 256 yJ13_bitCount_95d88 M_J13_bitCount_95d88 1 := ⟨x_in 872 (by decide +kernel) rfl, x_in 543 (by decide +kernel) rfl, x_in 91 (by decide +kernel) rfl, x_in 544 (by decide +kernel) rfl, by decide +kernel⟩
theorem C_X7_261 : xCV RX7 261 yX0_commonAt M_X0_commonAt 1 := ⟨x_in 877 (by decide +kernel) rfl, x_in 878 (by decide +kernel) rfl, x_in 879 (by decide +kernel) rfl, x_in 86 (by decide +kernel) rfl, x_in 880 (by decide +kernel) rfl, by decide +kernel⟩
theorem C_X7_264 : xCV RX7 264 yX7_offerRings M_X7_offerRings 3 := ⟨x_in 868 (by decide +kernel) rfl, x_in 870 (by decide +kernel) rfl, x_in 34 (by decide +kernel) rfl, x_in 78 (by decide +kernel) rfl, x_in 871 (by decide +kernel) rfl, by decide +kernel⟩
theorem C_X7_267 : xCV RX7 267 yX0_canCover M_X0_canCover 1 := ⟨x_in 885 (by decide +kernel) rfl, x_in 886 (by decide +kernel) rfl, x_in 887 (by decide +kernel) rfl, x_in 86 (by decide +kernel) rfl, x_in 888 (by decide +kernel) rfl, by decide +kernel⟩
theorem C_X7_270 : xCV RX7 270 yX1_alike M_X1_alike 3 := ⟨x_in 504 (by decide +kernel) rfl, x_in 432 (by decide +kernel) rfl, x_in 433 (by decide +kernel) rfl, x_in 79 (by decide +kernel) rfl, x_in 434 (by decide +kernel) rfl, by decide +kernel⟩
theorem C_X8_67 : xCV RX8 67 yX8_empty M_X8_empty 0 := ⟨x_in 899 (by decide +kernel) rfl, x_in 901 (by decide +kernel) rfl, x_in 36 (by decide +kernel) rfl, x_in 87 (by decide +kernel) rfl, x_in 902 (by decide +kernel) rfl, by decide +kernel⟩
theorem C_X8_70 : xCS RX8 70 yX8_in M_X8_in 3 := ⟨x_in 1015 (by decide +kernel) rfl, x_in 1016 (by decide +kernel) rfl, x_in 87 (by decide +kernel) rfl, x_in 1017 (by decide +kernel) rfl, by decide +kernel⟩
theorem C_X8_76 : xCS RX8 76 yX8_isList M_X8_isList 1 := ⟨x_in 1097 (by decide +kernel) rfl, x_in 1098 (by decide +kernel) rfl, x_in 87 (by decide +kernel) rfl, x_in 1099 (by decide +kernel) rfl, by decide +kernel⟩
theorem C_X8_94 : xCV RX8 94 yX8_isMark M_X8_isMark 1 := ⟨x_in 1032 (by decide +kernel) rfl, x_in 1034 (by decide +kernel) rfl, x_in 37 (by decide +kernel) rfl, x_in 87 (by decide +kernel) rfl, x_in 1035 (by decide +kernel) rfl, by decide +kernel⟩
theorem C_X8_97 : xCV RX8 97 yX8_turnedOf M_X8_turnedOf 1 := ⟨x_in 1036 (by decide +kernel) rfl, x_in 1038 (by decide +kernel) rfl, x_in 38 (by decide +kernel) rfl, x_in 87 (by decide +kernel) rfl, x_in 1039 (by decide +kernel) rfl, by decide +kernel⟩
theorem C_X8_101 : xCS RX8 101 yX8_bits M_X8_bits 1 := ⟨x_in 1052 (by decide +kernel) rfl, x_in 1053 (by decide +kernel) rfl, x_in 87 (by decide +kernel) rfl, x_in 1054 (by decide +kernel) rfl, by decide +kernel⟩
theorem C_X8_104 : xCV RX8 104 yX8_isNear M_X8_isNear 2 := ⟨x_in 1055 (by decide +kernel) rfl, x_in 1057 (by decide +kernel) rfl, x_in 41 (by decide +kernel) rfl, x_in 87 (by decide +kernel) rfl, x_in 1058 (by decide +kernel) rfl, by decide +kernel⟩
theorem C_X8_108 : xCV RX8 108 yX8_isSeen M_X8_isSeen 2 := ⟨x_in 1044 (by decide +kernel) rfl, x_in 1046 (by decide +kernel) rfl, x_in 39 (by decide +kernel) rfl, x_in 87 (by decide +kernel) rfl, x_in 1047 (by decide +kernel) rfl, by decide +kernel⟩
theorem C_X8_111 : xCV RX8 111 yX8_maySee M_X8_maySee 3 := ⟨x_in 1048 (by decide +kernel) rfl, x_in 1050 (by decide +kernel) rfl, x_in 40 (by decide +kernel) rfl, x_in 87 (by decide +kernel) rfl, x_in 1051 (by decide +kernel) rfl, by decide +kernel⟩
theorem C_X8_115 : xCV RX8 115 yX8_meet M_X8_meet 2 := ⟨x_in 1067 (by decide +kernel) rfl, x_in 1069 (by decide +kernel) rfl, x_in 43 (by decide +kernel) rfl, x_in 87 (by decide +kernel) rfl, x_in 1070 (by decide +kernel) rfl, by decide +kernel⟩
theorem C_X8_118 : xCV RX8 118 yX8_areAlike M_X8_areAlike 2 := ⟨x_in 1063 (by decide +kernel) rfl, x_in 1065 (by decide +kernel) rfl, x_in 42 (by decide +kernel) rfl, x_in 87 (by decide +kernel) rfl, x_in 1066 (by decide +kernel) rfl, by decide +kernel⟩
theorem C_X8_121 : xCV RX8 121 yX8_witness M_X8_witness 3 := ⟨x_in 1071 (by decide +kernel) rfl, x_in 1073 (by decide +kernel) rfl, x_in 44 (by decide +kernel) rfl, x_in 87 (by decide +kernel) rfl, x_in 1074 (by decide +kernel) rfl, by decide +kernel⟩
theorem C_X8_125 : xCS RX8 125 yX8_choose M_X8_choose 2 := ⟨x_in 1086 (by decide +kernel) rfl, x_in 1087 (by decide +kernel) rfl, x_in 87 (by decide +kernel) rfl, x_in 1088 (by decide +kernel) rfl, by decide +kernel⟩
theorem C_X8_129 : xCS RX8 129 yX8_upTo M_X8_upTo 2 := ⟨x_in 1083 (by decide +kernel) rfl, x_in 1084 (by decide +kernel) rfl, x_in 87 (by decide +kernel) rfl, x_in 1085 (by decide +kernel) rfl, by decide +kernel⟩
theorem C_X8_132 : xCV RX8 132 yX8_filledByBoth M_X8_filledByBoth 1 := ⟨x_in 1089 (by decide +kernel) rfl, x_in 1091 (by decide +kernel) rfl, x_in 46 (by decide +kernel) rfl, x_in 87 (by decide +kernel) rfl, x_in 1092 (by decide +kernel) rfl, by decide +kernel⟩
theorem C_X8_135 : xCV RX8 135 yX8_filledBy M_X8_filledBy 1 := ⟨x_in 1079 (by decide +kernel) rfl, x_in 1081 (by decide +kernel) rfl, x_in 45 (by decide +kernel) rfl, x_in 87 (by decide +kernel) rfl, x_in 1082 (by decide +kernel) rfl, by decide +kernel⟩
theorem C_X8_138 : xCV RX8 138 yX8_at M_X8_at 2 := ⟨x_in 1105 (by decide +kernel) rfl, x_in 1107 (by decide +kernel) rfl, x_in 48 (by decide +kernel) rfl, x_in 87 (by decide +kernel) rfl, x_in 1108 (by decide +kernel) rfl, by decide +kernel⟩
theorem C_X8_141 : xCV RX8 141 yX8_has M_X8_has 2 := ⟨x_in 1101 (by decide +kernel) rfl, x_in 1103 (by decide +kernel) rfl, x_in 47 (by decide +kernel) rfl, x_in 87 (by decide +kernel) rfl, x_in 1104 (by decide +kernel) rfl, by decide +kernel⟩
theorem C_X8_144 : xCV RX8 144 yX8_put M_X8_put 2 := ⟨x_in 1109 (by decide +kernel) rfl, x_in 1111 (by decide +kernel) rfl, x_in 49 (by decide +kernel) rfl, x_in 87 (by decide +kernel) rfl, x_in 1112 (by decide +kernel) rfl, by decide +kernel⟩
theorem C_X8_148 : xCV RX8 148 yX8_isOf M_X8_isOf 2 := ⟨x_in 1117 (by decide +kernel) rfl, x_in 1119 (by decide +kernel) rfl, x_in 50 (by decide +kernel) rfl, x_in 87 (by decide +kernel) rfl, x_in 1120 (by decide +kernel) rfl, by decide +kernel⟩
theorem C_X8_155 : xCV RX8 155 yX8_isApart M_X8_isApart 2 := ⟨x_in 1139 (by decide +kernel) rfl, x_in 1141 (by decide +kernel) rfl, x_in 51 (by decide +kernel) rfl, x_in 87 (by decide +kernel) rfl, x_in 1142 (by decide +kernel) rfl, by decide +kernel⟩
theorem C_X8_161 : xCS RX8 161 yX8_bits32 M_X8_bits32 1 := ⟨x_in 1152 (by decide +kernel) rfl, x_in 1153 (by decide +kernel) rfl, x_in 87 (by decide +kernel) rfl, x_in 1154 (by decide +kernel) rfl, by decide +kernel⟩
theorem C_X8_166 : xCV RX8 166 yX8_findMost M_X8_findMost 1 := ⟨x_in 1148 (by decide +kernel) rfl, x_in 1150 (by decide +kernel) rfl, x_in 52 (by decide +kernel) rfl, x_in 87 (by decide +kernel) rfl, x_in 1151 (by decide +kernel) rfl, by decide +kernel⟩
theorem C_X8_173 : xCV RX8 173 yX8_come M_X8_come 1 := ⟨x_in 1163 (by decide +kernel) rfl, x_in 1165 (by decide +kernel) rfl, x_in 53 (by decide +kernel) rfl, x_in 87 (by decide +kernel) rfl, x_in 1166 (by decide +kernel) rfl, by decide +kernel⟩
theorem C_X8_176 : xCV RX8 176 yX8_keep M_X8_keep 1 := ⟨x_in 1167 (by decide +kernel) rfl, x_in 1169 (by decide +kernel) rfl, x_in 54 (by decide +kernel) rfl, x_in 87 (by decide +kernel) rfl, x_in 1170 (by decide +kernel) rfl, by decide +kernel⟩
theorem C_X8_189 : xCV RX8 189 yX8_here M_X8_here 0 := ⟨x_in 1197 (by decide +kernel) rfl, x_in 1199 (by decide +kernel) rfl, x_in 55 (by decide +kernel) rfl, x_in 87 (by decide +kernel) rfl, x_in 1200 (by decide +kernel) rfl, by decide +kernel⟩
theorem C_X8_216 : xCV RX8 216 yX8_fails M_X8_fails 2 := ⟨x_in 1222 (by decide +kernel) rfl, x_in 1224 (by decide +kernel) rfl, x_in 59 (by decide +kernel) rfl, x_in 87 (by decide +kernel) rfl, x_in 1225 (by decide +kernel) rfl, by decide +kernel⟩
theorem C_X8_228 : xCV RX8 228 yX8_step M_X8_step 2 := ⟨x_in 1240 (by decide +kernel) rfl, x_in 1242 (by decide +kernel) rfl, x_in 63 (by decide +kernel) rfl, x_in 87 (by decide +kernel) rfl, x_in 1243 (by decide +kernel) rfl, by decide +kernel⟩
theorem C_X8_231 : xCV RX8 231 yX8_readNumber M_X8_readNumber 2 := ⟨x_in 1234 (by decide +kernel) rfl, x_in 1236 (by decide +kernel) rfl, x_in 62 (by decide +kernel) rfl, x_in 87 (by decide +kernel) rfl, x_in 1237 (by decide +kernel) rfl, by decide +kernel⟩
theorem C_X8_234 : xCV RX8 234 yX8_readWord M_X8_readWord 0 := ⟨x_in 1205 (by decide +kernel) rfl, x_in 1207 (by decide +kernel) rfl, x_in 57 (by decide +kernel) rfl, x_in 87 (by decide +kernel) rfl, x_in 1208 (by decide +kernel) rfl, by decide +kernel⟩
theorem C_X8_237 : xCS RX8 237 yX8_code M_X8_code 5 := ⟨x_in 1215 (by decide +kernel) rfl, x_in 1216 (by decide +kernel) rfl, x_in 87 (by decide +kernel) rfl, x_in 1217 (by decide +kernel) rfl, by decide +kernel⟩
theorem C_X8_241 : xCV RX8 241 yX8_readSum M_X8_readSum 0 := ⟨x_in 1230 (by decide +kernel) rfl, x_in 1232 (by decide +kernel) rfl, x_in 61 (by decide +kernel) rfl, x_in 87 (by decide +kernel) rfl, x_in 1233 (by decide +kernel) rfl, by decide +kernel⟩
theorem C_X8_244 : xCV RX8 244 yX8_work M_X8_work 1 := ⟨x_in 1244 (by decide +kernel) rfl, x_in 1246 (by decide +kernel) rfl, x_in 64 (by decide +kernel) rfl, x_in 87 (by decide +kernel) rfl, x_in 1247 (by decide +kernel) rfl, by decide +kernel⟩
theorem C_X8_251 : xCV RX8 251 yX8_hold M_X8_hold 1 := ⟨x_in 1218 (by decide +kernel) rfl, x_in 1220 (by decide +kernel) rfl, x_in 58 (by decide +kernel) rfl, x_in 87 (by decide +kernel) rfl, x_in 1221 (by decide +kernel) rfl, by decide +kernel⟩
theorem C_X8_257 : xCV RX8 257 yX8_readLeaf M_X8_readLeaf 0 := ⟨x_in 1226 (by decide +kernel) rfl, x_in 1228 (by decide +kernel) rfl, x_in 60 (by decide +kernel) rfl, x_in 87 (by decide +kernel) rfl, x_in 1229 (by decide +kernel) rfl, by decide +kernel⟩
theorem C_X8_260 : xCV RX8 260 yX8_sumOf M_X8_sumOf 1 := ⟨x_in 1260 (by decide +kernel) rfl, x_in 1262 (by decide +kernel) rfl, x_in 68 (by decide +kernel) rfl, x_in 87 (by decide +kernel) rfl, x_in 1263 (by decide +kernel) rfl, by decide +kernel⟩
theorem C_X8_263 : xCV RX8 263 yX8_isSo M_X8_isSo 3 := ⟨x_in 1256 (by decide +kernel) rfl, x_in 1258 (by decide +kernel) rfl, x_in 67 (by decide +kernel) rfl, x_in 87 (by decide +kernel) rfl, x_in 1259 (by decide +kernel) rfl, by decide +kernel⟩
theorem C_X8_266 : xCV RX8 266 yX8_readOne M_X8_readOne 0 := ⟨x_in 1201 (by decide +kernel) rfl, x_in 1203 (by decide +kernel) rfl, x_in 56 (by decide +kernel) rfl, x_in 87 (by decide +kernel) rfl, x_in 1204 (by decide +kernel) rfl, by decide +kernel⟩
theorem C_X8_269 : xCV RX8 269 yX8_readBehind M_X8_readBehind 0 := ⟨x_in 1248 (by decide +kernel) rfl, x_in 1250 (by decide +kernel) rfl, x_in 65 (by decide +kernel) rfl, x_in 87 (by decide +kernel) rfl, x_in 1251 (by decide +kernel) rfl, by decide +kernel⟩
theorem C_X8_272 : xCV RX8 272 yX8_holds M_X8_holds 1 := ⟨x_in 1252 (by decide +kernel) rfl, x_in 1254 (by decide +kernel) rfl, x_in 66 (by decide +kernel) rfl, x_in 87 (by decide +kernel) rfl, x_in 1255 (by decide +kernel) rfl, by decide +kernel⟩
theorem C_X8_277 : xCV RX8 277 yX8_chanceOf M_X8_chanceOf 1 := ⟨x_in 1285 (by decide +kernel) rfl, x_in 1287 (by decide +kernel) rfl, x_in 69 (by decide +kernel) rfl, x_in 87 (by decide +kernel) rfl, x_in 1288 (by decide +kernel) rfl, by decide +kernel⟩
theorem C_X8_286 : xCV RX8 286 yX8_isAsked M_X8_isAsked 3 := ⟨x_in 1298 (by decide +kernel) rfl, x_in 1300 (by decide +kernel) rfl, x_in 70 (by decide +kernel) rfl, x_in 87 (by decide +kernel) rfl, x_in 1301 (by decide +kernel) rfl, by decide +kernel⟩
theorem C_X8_289 : xCV RX8 289 yX8_begin M_X8_begin 0 := ⟨x_in 1302 (by decide +kernel) rfl, x_in 1304 (by decide +kernel) rfl, x_in 71 (by decide +kernel) rfl, x_in 87 (by decide +kernel) rfl, x_in 1305 (by decide +kernel) rfl, by decide +kernel⟩
theorem C_X8_292 : xCV RX8 292 yX8_goOn M_X8_goOn 2 := ⟨x_in 1306 (by decide +kernel) rfl, x_in 1308 (by decide +kernel) rfl, x_in 72 (by decide +kernel) rfl, x_in 87 (by decide +kernel) rfl, x_in 1309 (by decide +kernel) rfl, by decide +kernel⟩
theorem C_X8_295 : xCV RX8 295 yX8_all M_X8_all 1 := ⟨x_in 1310 (by decide +kernel) rfl, x_in 1312 (by decide +kernel) rfl, x_in 73 (by decide +kernel) rfl, x_in 87 (by decide +kernel) rfl, x_in 1313 (by decide +kernel) rfl, by decide +kernel⟩
theorem C_X8_298 : xCS RX8 298 yX8_canMake M_X8_canMake 3 := ⟨x_in 1318 (by decide +kernel) rfl, x_in 1319 (by decide +kernel) rfl, x_in 87 (by decide +kernel) rfl, x_in 1320 (by decide +kernel) rfl, by decide +kernel⟩
theorem C_X8_310 : xCV RX8 310 yX8_common M_X8_common 1 := ⟨x_in 1329 (by decide +kernel) rfl, x_in 1331 (by decide +kernel) rfl, x_in 75 (by decide +kernel) rfl, x_in 87 (by decide +kernel) rfl, x_in 1332 (by decide +kernel) rfl, by decide +kernel⟩
theorem C_X8_313 : xCV RX8 313 yX8_findRings M_X8_findRings 3 := ⟨x_in 1325 (by decide +kernel) rfl, x_in 1327 (by decide +kernel) rfl, x_in 74 (by decide +kernel) rfl, x_in 87 (by decide +kernel) rfl, x_in 1328 (by decide +kernel) rfl, by decide +kernel⟩
theorem C_X8_317 : xCV RX8 317 yX8_isPicked M_X8_isPicked 1 := ⟨x_in 1341 (by decide +kernel) rfl, x_in 1343 (by decide +kernel) rfl, x_in 76 (by decide +kernel) rfl, x_in 87 (by decide +kernel) rfl, x_in 1344 (by decide +kernel) rfl, by decide +kernel⟩
