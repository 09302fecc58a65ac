/-! ===== the programs are the bytes: looked at by program ===== -/
theorem al2 {p : CE → Bool} {a b : List CE} (ha : a.all p = true) (hb : b.all p = true) : (a ++ b).all p = true := by rw [List.all_append, ha, hb]; rfl
theorem ckX8_init_0 : (qX8_init_0 []).all (ceB mX8_init) = true := by decide +kernel
theorem ckX8_init_1 : (qX8_init_1 []).all (ceB mX8_init) = true := by decide +kernel
theorem ckX8_init_2 : (qX8_init_2 []).all (ceB mX8_init) = true := by decide +kernel
theorem qaX8_init_0 (r : List CE) : qX8_init_0 r = qX8_init_0 [] ++ r := rfl
theorem qaX8_init_1 (r : List CE) : qX8_init_1 r = qX8_init_1 [] ++ r := rfl
theorem ckX8_init : mX8_init.2.1.all (ceB mX8_init) = true := by
  show (qX8_init_0 (qX8_init_1 (qX8_init_2 []))).all (ceB mX8_init) = true
  rw [qaX8_init_0, List.all_append, ckX8_init_0, Bool.true_and, qaX8_init_1, List.all_append, ckX8_init_1, Bool.true_and]
  exact ckX8_init_2
theorem ckJx4a65c_init_da8c8 : mJx4a65c_init_da8c8.2.1.all (ceB mJx4a65c_init_da8c8) = true := by decide +kernel
theorem ckJxc12de_init_da8c8 : mJxc12de_init_da8c8.2.1.all (ceB mJxc12de_init_da8c8) = true := by decide +kernel
theorem ckJxa1e45_init_da8c8 : mJxa1e45_init_da8c8.2.1.all (ceB mJxa1e45_init_da8c8) = true := by decide +kernel
theorem ckX6_init : mX6_init.2.1.all (ceB mX6_init) = true := by decide +kernel
theorem ckX7_init : mX7_init.2.1.all (ceB mX7_init) = true := by decide +kernel
theorem ckX3_init : mX3_init.2.1.all (ceB mX3_init) = true := by decide +kernel
theorem ckX0_init : mX0_init.2.1.all (ceB mX0_init) = true := by decide +kernel
theorem ckX5_init_0 : (qX5_init_0 []).all (ceB mX5_init) = true := by decide +kernel
theorem ckX5_init_1 : (qX5_init_1 []).all (ceB mX5_init) = true := by decide +kernel
theorem qaX5_init_0 (r : List CE) : qX5_init_0 r = qX5_init_0 [] ++ r := rfl
theorem ckX5_init : mX5_init.2.1.all (ceB mX5_init) = true := by
  show (qX5_init_0 (qX5_init_1 [])).all (ceB mX5_init) = true
  rw [qaX5_init_0, List.all_append, ckX5_init_0, Bool.true_and]
  exact ckX5_init_1
theorem ckX4_init : mX4_init.2.1.all (ceB mX4_init) = true := by decide +kernel
theorem ckX8_go : mX8_go.2.1.all (ceB mX8_go) = true := by decide +kernel
theorem ckX8_page : mX8_page.2.1.all (ceB mX8_page) = true := by decide +kernel
theorem ckJx4a65c_size_8abf5 : mJx4a65c_size_8abf5.2.1.all (ceB mJx4a65c_size_8abf5) = true := by decide +kernel
theorem ckX2_init : mX2_init.2.1.all (ceB mX2_init) = true := by decide +kernel
theorem ckJx4a65c_add_9ea2d : mJx4a65c_add_9ea2d.2.1.all (ceB mJx4a65c_add_9ea2d) = true := by decide +kernel
theorem ckJx4a65c_add_72be8 : mJx4a65c_add_72be8.2.1.all (ceB mJx4a65c_add_72be8) = true := by decide +kernel
theorem ckJx4a65c_grow_d5877 : mJx4a65c_grow_d5877.2.1.all (ceB mJx4a65c_grow_d5877) = true := by decide +kernel
theorem ckJx4a65c_grow_92f84 : mJx4a65c_grow_92f84.2.1.all (ceB mJx4a65c_grow_92f84) = true := by decide +kernel
theorem ckJ8_newLength_cabcc : mJ8_newLength_cabcc.2.1.all (ceB mJ8_newLength_cabcc) = true := by decide +kernel
theorem ckJ9_max_7cf53 : mJ9_max_7cf53.2.1.all (ceB mJ9_max_7cf53) = true := by decide +kernel
theorem ckJ8_hugeLength_7cf53 : mJ8_hugeLength_7cf53.2.1.all (ceB mJ8_hugeLength_7cf53) = true := by decide +kernel
theorem ckJ7_copyOf_1904c : mJ7_copyOf_1904c.2.1.all (ceB mJ7_copyOf_1904c) = true := by decide +kernel
theorem ckJ7_copyOf_6403c : mJ7_copyOf_6403c.2.1.all (ceB mJ7_copyOf_6403c) = true := by decide +kernel
theorem ckJ9_min_7cf53 : mJ9_min_7cf53.2.1.all (ceB mJ9_min_7cf53) = true := by decide +kernel
theorem ckX8_look_0 : (qX8_look_0 []).all (ceB mX8_look) = true := by decide +kernel
theorem ckX8_look_1 : (qX8_look_1 []).all (ceB mX8_look) = true := by decide +kernel
theorem ckX8_look_2 : (qX8_look_2 []).all (ceB mX8_look) = true := by decide +kernel
theorem qaX8_look_0 (r : List CE) : qX8_look_0 r = qX8_look_0 [] ++ r := rfl
theorem qaX8_look_1 (r : List CE) : qX8_look_1 r = qX8_look_1 [] ++ r := rfl
theorem ckX8_look : mX8_look.2.1.all (ceB mX8_look) = true := by
  show (qX8_look_0 (qX8_look_1 (qX8_look_2 []))).all (ceB mX8_look) = true
  rw [qaX8_look_0, List.all_append, ckX8_look_0, Bool.true_and, qaX8_look_1, List.all_append, ckX8_look_1, Bool.true_and]
  exact ckX8_look_2
theorem ckX8_pageAt : mX8_pageAt.2.1.all (ceB mX8_pageAt) = true := by decide +kernel
theorem ckJx4a65c_get_915e3 : mJx4a65c_get_915e3.2.1.all (ceB mJx4a65c_get_915e3) = true := by decide +kernel
theorem ckJ15_checkIndex_7cf53 : mJ15_checkIndex_7cf53.2.1.all (ceB mJ15_checkIndex_7cf53) = true := by decide +kernel
theorem ckJ3_checkIndex_8e157 : mJ3_checkIndex_8e157.2.1.all (ceB mJ3_checkIndex_8e157) = true := by decide +kernel
theorem ckJx4a65c_elementData_915e3 : mJx4a65c_elementData_915e3.2.1.all (ceB mJx4a65c_elementData_915e3) = true := by decide +kernel
theorem ckX5_allow : mX5_allow.2.1.all (ceB mX5_allow) = true := by decide +kernel
theorem ckX5_letOf : mX5_letOf.2.1.all (ceB mX5_letOf) = true := by decide +kernel
theorem ckX1_init : mX1_init.2.1.all (ceB mX1_init) = true := by decide +kernel
theorem ckX1_tell : mX1_tell.2.1.all (ceB mX1_tell) = true := by decide +kernel
theorem ckX8_keep : mX8_keep.2.1.all (ceB mX8_keep) = true := by decide +kernel
theorem ckX1_isView : mX1_isView.2.1.all (ceB mX1_isView) = true := by decide +kernel
theorem ckX0_bring : mX0_bring.2.1.all (ceB mX0_bring) = true := by decide +kernel
theorem ckX8_take : mX8_take.2.1.all (ceB mX8_take) = true := by decide +kernel
theorem ckX8_lookAt : mX8_lookAt.2.1.all (ceB mX8_lookAt) = true := by decide +kernel
theorem ckX2_drop : mX2_drop.2.1.all (ceB mX2_drop) = true := by decide +kernel
theorem ckJx4a65c_remove_915e3 : mJx4a65c_remove_915e3.2.1.all (ceB mJx4a65c_remove_915e3) = true := by decide +kernel
theorem ckJx4a65c_fastRemove_b59b0 : mJx4a65c_fastRemove_b59b0.2.1.all (ceB mJx4a65c_fastRemove_b59b0) = true := by decide +kernel
theorem ckX7_drop : mX7_drop.2.1.all (ceB mX7_drop) = true := by decide +kernel
theorem ckX1_takeOut : mX1_takeOut.2.1.all (ceB mX1_takeOut) = true := by decide +kernel
theorem ckX8_told : mX8_told.2.1.all (ceB mX8_told) = true := by decide +kernel
theorem ckJ13_bitCount_95d88_0 : (qJ13_bitCount_95d88_0 []).all (ceB mJ13_bitCount_95d88) = true := by decide +kernel
theorem ckJ13_bitCount_95d88_1 : (qJ13_bitCount_95d88_1 []).all (ceB mJ13_bitCount_95d88) = true := by decide +kernel
theorem qaJ13_bitCount_95d88_0 (r : List CE) : qJ13_bitCount_95d88_0 r = qJ13_bitCount_95d88_0 [] ++ r := rfl
theorem ckJ13_bitCount_95d88 : mJ13_bitCount_95d88.2.1.all (ceB mJ13_bitCount_95d88) = true := by
  show (qJ13_bitCount_95d88_0 (qJ13_bitCount_95d88_1 [])).all (ceB mJ13_bitCount_95d88) = true
  rw [qaJ13_bitCount_95d88_0, List.all_append, ckJ13_bitCount_95d88_0, Bool.true_and]
  exact ckJ13_bitCount_95d88_1
theorem ckX8_pieces : mX8_pieces.2.1.all (ceB mX8_pieces) = true := by decide +kernel
theorem ckX8_view : mX8_view.2.1.all (ceB mX8_view) = true := by decide +kernel
theorem ckX8_count : mX8_count.2.1.all (ceB mX8_count) = true := by decide +kernel
theorem ckX8_holes : mX8_holes.2.1.all (ceB mX8_holes) = true := by decide +kernel
theorem ckX8_allViews : mX8_allViews.2.1.all (ceB mX8_allViews) = true := by decide +kernel
theorem ckX0_keptIn : mX0_keptIn.2.1.all (ceB mX0_keptIn) = true := by decide +kernel
theorem ckX8_piecesEver : mX8_piecesEver.2.1.all (ceB mX8_piecesEver) = true := by decide +kernel
theorem ckX0_keptInAny : mX0_keptInAny.2.1.all (ceB mX0_keptInAny) = true := by decide +kernel
theorem ckX8_feed : mX8_feed.2.1.all (ceB mX8_feed) = true := by decide +kernel
theorem ckX6_append : mX6_append.2.1.all (ceB mX6_append) = true := by decide +kernel
theorem ckX8_read : mX8_read.2.1.all (ceB mX8_read) = true := by decide +kernel
theorem ckX6_open : mX6_open.2.1.all (ceB mX6_open) = true := by decide +kernel
theorem ckX5_readFrom : mX5_readFrom.2.1.all (ceB mX5_readFrom) = true := by decide +kernel
theorem ckX5_becomeFirst : mX5_becomeFirst.2.1.all (ceB mX5_becomeFirst) = true := by decide +kernel
theorem ckX6_goesOn : mX6_goesOn.2.1.all (ceB mX6_goesOn) = true := by decide +kernel
theorem ckX6_nextPlace : mX6_nextPlace.2.1.all (ceB mX6_nextPlace) = true := by decide +kernel
theorem ckX5_readClause_0 : (qX5_readClause_0 []).all (ceB mX5_readClause) = true := by decide +kernel
theorem ckX5_readClause_1 : (qX5_readClause_1 []).all (ceB mX5_readClause) = true := by decide +kernel
theorem qaX5_readClause_0 (r : List CE) : qX5_readClause_0 r = qX5_readClause_0 [] ++ r := rfl
theorem ckX5_readClause : mX5_readClause.2.1.all (ceB mX5_readClause) = true := by
  show (qX5_readClause_0 (qX5_readClause_1 [])).all (ceB mX5_readClause) = true
  rw [qaX5_readClause_0, List.all_append, ckX5_readClause_0, Bool.true_and]
  exact ckX5_readClause_1
theorem ckX6_passWord : mX6_passWord.2.1.all (ceB mX6_passWord) = true := by decide +kernel
theorem ckJ0_length_8abf5 : mJ0_length_8abf5.2.1.all (ceB mJ0_length_8abf5) = true := by decide +kernel
theorem ckJ0_coder_7d493 : mJ0_coder_7d493.2.1.all (ceB mJ0_coder_7d493) = true := by decide +kernel
theorem ckX6_byteAt : mX6_byteAt.2.1.all (ceB mX6_byteAt) = true := by decide +kernel
theorem ckJ0_charAt_5068e : mJ0_charAt_5068e.2.1.all (ceB mJ0_charAt_5068e) = true := by decide +kernel
theorem ckJ0_isLatin1_aae02 : mJ0_isLatin1_aae02.2.1.all (ceB mJ0_isLatin1_aae02) = true := by decide +kernel
theorem ckJ1_charAt_3b067 : mJ1_charAt_3b067.2.1.all (ceB mJ1_charAt_3b067) = true := by decide +kernel
theorem ckJ0_checkIndex_df160 : mJ0_checkIndex_df160.2.1.all (ceB mJ0_checkIndex_df160) = true := by decide +kernel
theorem ckJ2_charAt_3b067 : mJ2_charAt_3b067.2.1.all (ceB mJ2_charAt_3b067) = true := by decide +kernel
theorem ckJ2_checkIndex_2214a : mJ2_checkIndex_2214a.2.1.all (ceB mJ2_checkIndex_2214a) = true := by decide +kernel
theorem ckJ2_length_9d52b : mJ2_length_9d52b.2.1.all (ceB mJ2_length_9d52b) = true := by decide +kernel
theorem ckJ2_getChar_3b067 : mJ2_getChar_3b067.2.1.all (ceB mJ2_getChar_3b067) = true := by decide +kernel
theorem ckX6_isLetter : mX6_isLetter.2.1.all (ceB mX6_isLetter) = true := by decide +kernel
theorem ckX5_readDoor : mX5_readDoor.2.1.all (ceB mX5_readDoor) = true := by decide +kernel
theorem ckX6_takeNumber_0 : (qX6_takeNumber_0 []).all (ceB mX6_takeNumber) = true := by decide +kernel
theorem ckX6_takeNumber_1 : (qX6_takeNumber_1 []).all (ceB mX6_takeNumber) = true := by decide +kernel
theorem qaX6_takeNumber_0 (r : List CE) : qX6_takeNumber_0 r = qX6_takeNumber_0 [] ++ r := rfl
theorem ckX6_takeNumber : mX6_takeNumber.2.1.all (ceB mX6_takeNumber) = true := by
  show (qX6_takeNumber_0 (qX6_takeNumber_1 [])).all (ceB mX6_takeNumber) = true
  rw [qaX6_takeNumber_0, List.all_append, ckX6_takeNumber_0, Bool.true_and]
  exact ckX6_takeNumber_1
theorem ckX6_isFigure : mX6_isFigure.2.1.all (ceB mX6_isFigure) = true := by decide +kernel
theorem ckX6_fail : mX6_fail.2.1.all (ceB mX6_fail) = true := by decide +kernel
theorem ckX5_readLet : mX5_readLet.2.1.all (ceB mX5_readLet) = true := by decide +kernel
theorem ckX6_takeWord : mX6_takeWord.2.1.all (ceB mX6_takeWord) = true := by decide +kernel
theorem ckX5_tellOnce : mX5_tellOnce.2.1.all (ceB mX5_tellOnce) = true := by decide +kernel
theorem ckX5_readClothes : mX5_readClothes.2.1.all (ceB mX5_readClothes) = true := by decide +kernel
theorem ckX6_passSign : mX6_passSign.2.1.all (ceB mX6_passSign) = true := by decide +kernel
theorem ckX6_takeSign : mX6_takeSign.2.1.all (ceB mX6_takeSign) = true := by decide +kernel
theorem ckX8_closeText : mX8_closeText.2.1.all (ceB mX8_closeText) = true := by decide +kernel
theorem ckX8_program : mX8_program.2.1.all (ceB mX8_program) = true := by decide +kernel
theorem ckX4_readFrom : mX4_readFrom.2.1.all (ceB mX4_readFrom) = true := by decide +kernel
theorem ckX4_readClause_0 : (qX4_readClause_0 []).all (ceB mX4_readClause) = true := by decide +kernel
theorem ckX4_readClause_1 : (qX4_readClause_1 []).all (ceB mX4_readClause) = true := by decide +kernel
theorem qaX4_readClause_0 (r : List CE) : qX4_readClause_0 r = qX4_readClause_0 [] ++ r := rfl
theorem ckX4_readClause : mX4_readClause.2.1.all (ceB mX4_readClause) = true := by
  show (qX4_readClause_0 (qX4_readClause_1 [])).all (ceB mX4_readClause) = true
  rw [qaX4_readClause_0, List.all_append, ckX4_readClause_0, Bool.true_and]
  exact ckX4_readClause_1
theorem ckX4_put : mX4_put.2.1.all (ceB mX4_put) = true := by decide +kernel
theorem ckX4_takeBehind : mX4_takeBehind.2.1.all (ceB mX4_takeBehind) = true := by decide +kernel
theorem ckX4_failBehindLast : mX4_failBehindLast.2.1.all (ceB mX4_failBehindLast) = true := by decide +kernel
theorem ckX8_fault : mX8_fault.2.1.all (ceB mX8_fault) = true := by decide +kernel
theorem ckX8_right : mX8_right.2.1.all (ceB mX8_right) = true := by decide +kernel
theorem ckX8_alike : mX8_alike.2.1.all (ceB mX8_alike) = true := by decide +kernel
theorem ckX8_viewAt : mX8_viewAt.2.1.all (ceB mX8_viewAt) = true := by decide +kernel
theorem ckX5_sameForm : mX5_sameForm.2.1.all (ceB mX5_sameForm) = true := by decide +kernel
theorem ckX1_form : mX1_form.2.1.all (ceB mX1_form) = true := by decide +kernel
theorem ckX8_sure : mX8_sure.2.1.all (ceB mX8_sure) = true := by decide +kernel
theorem ckX8_isHour : mX8_isHour.2.1.all (ceB mX8_isHour) = true := by decide +kernel
theorem ckX2_sureAt : mX2_sureAt.2.1.all (ceB mX2_sureAt) = true := by decide +kernel
theorem ckX2_claims_0 : (qX2_claims_0 []).all (ceB mX2_claims) = true := by decide +kernel
theorem ckX2_claims_1 : (qX2_claims_1 []).all (ceB mX2_claims) = true := by decide +kernel
theorem qaX2_claims_0 (r : List CE) : qX2_claims_0 r = qX2_claims_0 [] ++ r := rfl
theorem ckX2_claims : mX2_claims.2.1.all (ceB mX2_claims) = true := by
  show (qX2_claims_0 (qX2_claims_1 [])).all (ceB mX2_claims) = true
  rw [qaX2_claims_0, List.all_append, ckX2_claims_0, Bool.true_and]
  exact ckX2_claims_1
theorem ckX1_start : mX1_start.2.1.all (ceB mX1_start) = true := by decide +kernel
theorem ckX8_state : mX8_state.2.1.all (ceB mX8_state) = true := by decide +kernel
theorem ckX2_stateAt_0 : (qX2_stateAt_0 []).all (ceB mX2_stateAt) = true := by decide +kernel
theorem ckX2_stateAt_1 : (qX2_stateAt_1 []).all (ceB mX2_stateAt) = true := by decide +kernel
theorem qaX2_stateAt_0 (r : List CE) : qX2_stateAt_0 r = qX2_stateAt_0 [] ++ r := rfl
theorem ckX2_stateAt : mX2_stateAt.2.1.all (ceB mX2_stateAt) = true := by
  show (qX2_stateAt_0 (qX2_stateAt_1 [])).all (ceB mX2_stateAt) = true
  rw [qaX2_stateAt_0, List.all_append, ckX2_stateAt_0, Bool.true_and]
  exact ckX2_stateAt_1
theorem ckX2_couldUnclaimed : mX2_couldUnclaimed.2.1.all (ceB mX2_couldUnclaimed) = true := by decide +kernel
theorem ckX2_lastUpTo : mX2_lastUpTo.2.1.all (ceB mX2_lastUpTo) = true := by decide +kernel
theorem ckX2_firstFrom : mX2_firstFrom.2.1.all (ceB mX2_firstFrom) = true := by decide +kernel
theorem ckX8_hours_0 : (qX8_hours_0 []).all (ceB mX8_hours) = true := by decide +kernel
theorem ckX8_hours_1 : (qX8_hours_1 []).all (ceB mX8_hours) = true := by decide +kernel
theorem qaX8_hours_0 (r : List CE) : qX8_hours_0 r = qX8_hours_0 [] ++ r := rfl
theorem ckX8_hours : mX8_hours.2.1.all (ceB mX8_hours) = true := by
  show (qX8_hours_0 (qX8_hours_1 [])).all (ceB mX8_hours) = true
  rw [qaX8_hours_0, List.all_append, ckX8_hours_0, Bool.true_and]
  exact ckX8_hours_1
theorem ckX8_isSpan : mX8_isSpan.2.1.all (ceB mX8_isSpan) = true := by decide +kernel
theorem ckX2_nextChange : mX2_nextChange.2.1.all (ceB mX2_nextChange) = true := by decide +kernel
theorem ckX2_sooner : mX2_sooner.2.1.all (ceB mX2_sooner) = true := by decide +kernel
theorem ckX8_part : mX8_part.2.1.all (ceB mX8_part) = true := by decide +kernel
theorem ckX1_isSeen : mX1_isSeen.2.1.all (ceB mX1_isSeen) = true := by decide +kernel
theorem ckX7_hasPage : mX7_hasPage.2.1.all (ceB mX7_hasPage) = true := by decide +kernel
theorem ckX8_wipe : mX8_wipe.2.1.all (ceB mX8_wipe) = true := by decide +kernel
theorem ckJx4a65c_clear_da8c8 : mJx4a65c_clear_da8c8.2.1.all (ceB mJx4a65c_clear_da8c8) = true := by decide +kernel
theorem ckX8_whole : mX8_whole.2.1.all (ceB mX8_whole) = true := by decide +kernel
theorem ckJx4a65c_isEmpty_aae02 : mJx4a65c_isEmpty_aae02.2.1.all (ceB mJx4a65c_isEmpty_aae02) = true := by decide +kernel
theorem ckX7_weigh_0 : (qX7_weigh_0 []).all (ceB mX7_weigh) = true := by decide +kernel
theorem ckX7_weigh_1 : (qX7_weigh_1 []).all (ceB mX7_weigh) = true := by decide +kernel
theorem qaX7_weigh_0 (r : List CE) : qX7_weigh_0 r = qX7_weigh_0 [] ++ r := rfl
theorem ckX7_weigh : mX7_weigh.2.1.all (ceB mX7_weigh) = true := by
  show (qX7_weigh_0 (qX7_weigh_1 [])).all (ceB mX7_weigh) = true
  rw [qaX7_weigh_0, List.all_append, ckX7_weigh_0, Bool.true_and]
  exact ckX7_weigh_1
theorem ckX7_stepTo_0 : (qX7_stepTo_0 []).all (ceB mX7_stepTo) = true := by decide +kernel
theorem ckX7_stepTo_1 : (qX7_stepTo_1 []).all (ceB mX7_stepTo) = true := by decide +kernel
theorem qaX7_stepTo_0 (r : List CE) : qX7_stepTo_0 r = qX7_stepTo_0 [] ++ r := rfl
theorem ckX7_stepTo : mX7_stepTo.2.1.all (ceB mX7_stepTo) = true := by
  show (qX7_stepTo_0 (qX7_stepTo_1 [])).all (ceB mX7_stepTo) = true
  rw [qaX7_stepTo_0, List.all_append, ckX7_stepTo_0, Bool.true_and]
  exact ckX7_stepTo_1
theorem ckX7_weighHours_0 : (qX7_weighHours_0 []).all (ceB mX7_weighHours) = true := by decide +kernel
theorem ckX7_weighHours_1 : (qX7_weighHours_1 []).all (ceB mX7_weighHours) = true := by decide +kernel
theorem ckX7_weighHours_2 : (qX7_weighHours_2 []).all (ceB mX7_weighHours) = true := by decide +kernel
theorem qaX7_weighHours_0 (r : List CE) : qX7_weighHours_0 r = qX7_weighHours_0 [] ++ r := rfl
theorem qaX7_weighHours_1 (r : List CE) : qX7_weighHours_1 r = qX7_weighHours_1 [] ++ r := rfl
theorem ckX7_weighHours : mX7_weighHours.2.1.all (ceB mX7_weighHours) = true := by
  show (qX7_weighHours_0 (qX7_weighHours_1 (qX7_weighHours_2 []))).all (ceB mX7_weighHours) = true
  rw [qaX7_weighHours_0, List.all_append, ckX7_weighHours_0, Bool.true_and, qaX7_weighHours_1, List.all_append, ckX7_weighHours_1, Bool.true_and]
  exact ckX7_weighHours_2
theorem ckX7_isFewer : mX7_isFewer.2.1.all (ceB mX7_isFewer) = true := by decide +kernel
theorem ckJ6_bitCount_0f7a4 : mJ6_bitCount_0f7a4.2.1.all (ceB mJ6_bitCount_0f7a4) = true := by decide +kernel
theorem ckX7_answer : mX7_answer.2.1.all (ceB mX7_answer) = true := by decide +kernel
theorem ckX8_bothWays_0 : (qX8_bothWays_0 []).all (ceB mX8_bothWays) = true := by decide +kernel
theorem ckX8_bothWays_1 : (qX8_bothWays_1 []).all (ceB mX8_bothWays) = true := by decide +kernel
theorem ckX8_bothWays_2 : (qX8_bothWays_2 []).all (ceB mX8_bothWays) = true := by decide +kernel
theorem qaX8_bothWays_0 (r : List CE) : qX8_bothWays_0 r = qX8_bothWays_0 [] ++ r := rfl
theorem qaX8_bothWays_1 (r : List CE) : qX8_bothWays_1 r = qX8_bothWays_1 [] ++ r := rfl
theorem ckX8_bothWays : mX8_bothWays.2.1.all (ceB mX8_bothWays) = true := by
  show (qX8_bothWays_0 (qX8_bothWays_1 (qX8_bothWays_2 []))).all (ceB mX8_bothWays) = true
  rw [qaX8_bothWays_0, List.all_append, ckX8_bothWays_0, Bool.true_and, qaX8_bothWays_1, List.all_append, ckX8_bothWays_1, Bool.true_and]
  exact ckX8_bothWays_2
theorem ckX8_arePages : mX8_arePages.2.1.all (ceB mX8_arePages) = true := by decide +kernel
theorem ckX2_alikeWithin : mX2_alikeWithin.2.1.all (ceB mX2_alikeWithin) = true := by decide +kernel
theorem ckX8_rate : mX8_rate.2.1.all (ceB mX8_rate) = true := by decide +kernel
theorem ckX2_changeRate_0 : (qX2_changeRate_0 []).all (ceB mX2_changeRate) = true := by decide +kernel
theorem ckX2_changeRate_1 : (qX2_changeRate_1 []).all (ceB mX2_changeRate) = true := by decide +kernel
theorem qaX2_changeRate_0 (r : List CE) : qX2_changeRate_0 r = qX2_changeRate_0 [] ++ r := rfl
theorem ckX2_changeRate : mX2_changeRate.2.1.all (ceB mX2_changeRate) = true := by
  show (qX2_changeRate_0 (qX2_changeRate_1 [])).all (ceB mX2_changeRate) = true
  rw [qaX2_changeRate_0, List.all_append, ckX2_changeRate_0, Bool.true_and]
  exact ckX2_changeRate_1
theorem ckX8_plan_0 : (qX8_plan_0 []).all (ceB mX8_plan) = true := by decide +kernel
theorem ckX8_plan_1 : (qX8_plan_1 []).all (ceB mX8_plan) = true := by decide +kernel
theorem qaX8_plan_0 (r : List CE) : qX8_plan_0 r = qX8_plan_0 [] ++ r := rfl
theorem ckX8_plan : mX8_plan.2.1.all (ceB mX8_plan) = true := by
  show (qX8_plan_0 (qX8_plan_1 [])).all (ceB mX8_plan) = true
  rw [qaX8_plan_0, List.all_append, ckX8_plan_0, Bool.true_and]
  exact ckX8_plan_1
theorem ckX3_open : mX3_open.2.1.all (ceB mX3_open) = true := by decide +kernel
theorem ckX2_worthAt : mX2_worthAt.2.1.all (ceB mX2_worthAt) = true := by decide +kernel
theorem ckX2_lastView : mX2_lastView.2.1.all (ceB mX2_lastView) = true := by decide +kernel
theorem ckX3_offer_0 : (qX3_offer_0 []).all (ceB mX3_offer) = true := by decide +kernel
theorem ckX3_offer_1 : (qX3_offer_1 []).all (ceB mX3_offer) = true := by decide +kernel
theorem qaX3_offer_0 (r : List CE) : qX3_offer_0 r = qX3_offer_0 [] ++ r := rfl
theorem ckX3_offer : mX3_offer.2.1.all (ceB mX3_offer) = true := by
  show (qX3_offer_0 (qX3_offer_1 [])).all (ceB mX3_offer) = true
  rw [qaX3_offer_0, List.all_append, ckX3_offer_0, Bool.true_and]
  exact ckX3_offer_1
theorem ckX3_settle : mX3_settle.2.1.all (ceB mX3_settle) = true := by decide +kernel
theorem ckX3_search_0 : (qX3_search_0 []).all (ceB mX3_search) = true := by decide +kernel
theorem ckX3_search_1 : (qX3_search_1 []).all (ceB mX3_search) = true := by decide +kernel
theorem qaX3_search_0 (r : List CE) : qX3_search_0 r = qX3_search_0 [] ++ r := rfl
theorem ckX3_search : mX3_search.2.1.all (ceB mX3_search) = true := by
  show (qX3_search_0 (qX3_search_1 [])).all (ceB mX3_search) = true
  rw [qaX3_search_0, List.all_append, ckX3_search_0, Bool.true_and]
  exact ckX3_search_1
theorem ckX3_keepIfBetter : mX3_keepIfBetter.2.1.all (ceB mX3_keepIfBetter) = true := by decide +kernel
theorem ckX3_mostFrom_0 : (qX3_mostFrom_0 []).all (ceB mX3_mostFrom) = true := by decide +kernel
theorem ckX3_mostFrom_1 : (qX3_mostFrom_1 []).all (ceB mX3_mostFrom) = true := by decide +kernel
theorem ckX3_mostFrom_2 : (qX3_mostFrom_2 []).all (ceB mX3_mostFrom) = true := by decide +kernel
theorem qaX3_mostFrom_0 (r : List CE) : qX3_mostFrom_0 r = qX3_mostFrom_0 [] ++ r := rfl
theorem qaX3_mostFrom_1 (r : List CE) : qX3_mostFrom_1 r = qX3_mostFrom_1 [] ++ r := rfl
theorem ckX3_mostFrom : mX3_mostFrom.2.1.all (ceB mX3_mostFrom) = true := by
  show (qX3_mostFrom_0 (qX3_mostFrom_1 (qX3_mostFrom_2 []))).all (ceB mX3_mostFrom) = true
  rw [qaX3_mostFrom_0, List.all_append, ckX3_mostFrom_0, Bool.true_and, qaX3_mostFrom_1, List.all_append, ckX3_mostFrom_1, Bool.true_and]
  exact ckX3_mostFrom_2
theorem ckX3_isBehindBetter : mX3_isBehindBetter.2.1.all (ceB mX3_isBehindBetter) = true := by decide +kernel
theorem ckX3_searchWith_0 : (qX3_searchWith_0 []).all (ceB mX3_searchWith) = true := by decide +kernel
theorem ckX3_searchWith_1 : (qX3_searchWith_1 []).all (ceB mX3_searchWith) = true := by decide +kernel
theorem qaX3_searchWith_0 (r : List CE) : qX3_searchWith_0 r = qX3_searchWith_0 [] ++ r := rfl
theorem ckX3_searchWith : mX3_searchWith.2.1.all (ceB mX3_searchWith) = true := by
  show (qX3_searchWith_0 (qX3_searchWith_1 [])).all (ceB mX3_searchWith) = true
  rw [qaX3_searchWith_0, List.all_append, ckX3_searchWith_0, Bool.true_and]
  exact ckX3_searchWith_1
theorem ckX3_upToOfDoor : mX3_upToOfDoor.2.1.all (ceB mX3_upToOfDoor) = true := by decide +kernel
theorem ckX8_links : mX8_links.2.1.all (ceB mX8_links) = true := by decide +kernel
theorem ckX4_total : mX4_total.2.1.all (ceB mX4_total) = true := by decide +kernel
theorem ckX4_linkAt : mX4_linkAt.2.1.all (ceB mX4_linkAt) = true := by decide +kernel
theorem ckX8_more : mX8_more.2.1.all (ceB mX8_more) = true := by decide +kernel
theorem ckX8_likeness : mX8_likeness.2.1.all (ceB mX8_likeness) = true := by decide +kernel
theorem ckX5_likenessOf : mX5_likenessOf.2.1.all (ceB mX5_likenessOf) = true := by decide +kernel
theorem ckX8_moved_0 : (qX8_moved_0 []).all (ceB mX8_moved) = true := by decide +kernel
theorem ckX8_moved_1 : (qX8_moved_1 []).all (ceB mX8_moved) = true := by decide +kernel
theorem qaX8_moved_0 (r : List CE) : qX8_moved_0 r = qX8_moved_0 [] ++ r := rfl
theorem ckX8_moved : mX8_moved.2.1.all (ceB mX8_moved) = true := by
  show (qX8_moved_0 (qX8_moved_1 [])).all (ceB mX8_moved) = true
  rw [qaX8_moved_0, List.all_append, ckX8_moved_0, Bool.true_and]
  exact ckX8_moved_1
theorem ckX2_lastSeen : mX2_lastSeen.2.1.all (ceB mX2_lastSeen) = true := by decide +kernel
theorem ckX8_lose : mX8_lose.2.1.all (ceB mX8_lose) = true := by decide +kernel
theorem ckX8_isPiece : mX8_isPiece.2.1.all (ceB mX8_isPiece) = true := by decide +kernel
theorem ckX0_drop : mX0_drop.2.1.all (ceB mX0_drop) = true := by decide +kernel
theorem ckX8_words : mX8_words.2.1.all (ceB mX8_words) = true := by decide +kernel
theorem ckX0_sentBetween_0 : (qX0_sentBetween_0 []).all (ceB mX0_sentBetween) = true := by decide +kernel
theorem ckX0_sentBetween_1 : (qX0_sentBetween_1 []).all (ceB mX0_sentBetween) = true := by decide +kernel
theorem qaX0_sentBetween_0 (r : List CE) : qX0_sentBetween_0 r = qX0_sentBetween_0 [] ++ r := rfl
theorem ckX0_sentBetween : mX0_sentBetween.2.1.all (ceB mX0_sentBetween) = true := by
  show (qX0_sentBetween_0 (qX0_sentBetween_1 [])).all (ceB mX0_sentBetween) = true
  rw [qaX0_sentBetween_0, List.all_append, ckX0_sentBetween_0, Bool.true_and]
  exact ckX0_sentBetween_1
theorem ckX8_mend : mX8_mend.2.1.all (ceB mX8_mend) = true := by decide +kernel
theorem ckX0_level : mX0_level.2.1.all (ceB mX0_level) = true := by decide +kernel
theorem ckX8_shown : mX8_shown.2.1.all (ceB mX8_shown) = true := by decide +kernel
theorem ckX8_since : mX8_since.2.1.all (ceB mX8_since) = true := by decide +kernel
theorem ckX2_sayingFrom : mX2_sayingFrom.2.1.all (ceB mX2_sayingFrom) = true := by decide +kernel
theorem ckX1_has : mX1_has.2.1.all (ceB mX1_has) = true := by decide +kernel
theorem ckX2_earliest : mX2_earliest.2.1.all (ceB mX2_earliest) = true := by decide +kernel
theorem ckX2_latest : mX2_latest.2.1.all (ceB mX2_latest) = true := by decide +kernel
theorem ckX8_first_0 : (qX8_first_0 []).all (ceB mX8_first) = true := by decide +kernel
theorem ckX8_first_1 : (qX8_first_1 []).all (ceB mX8_first) = true := by decide +kernel
theorem qaX8_first_0 (r : List CE) : qX8_first_0 r = qX8_first_0 [] ++ r := rfl
theorem ckX8_first : mX8_first.2.1.all (ceB mX8_first) = true := by
  show (qX8_first_0 (qX8_first_1 [])).all (ceB mX8_first) = true
  rw [qaX8_first_0, List.all_append, ckX8_first_0, Bool.true_and]
  exact ckX8_first_1
theorem ckX2_firstWith : mX2_firstWith.2.1.all (ceB mX2_firstWith) = true := by decide +kernel
theorem ckX8_nowhere : mX8_nowhere.2.1.all (ceB mX8_nowhere) = true := by decide +kernel
theorem ckX9_init_0 : (qX9_init_0 []).all (ceB mX9_init) = true := by decide +kernel
theorem ckX9_init_1 : (qX9_init_1 []).all (ceB mX9_init) = true := by decide +kernel
theorem ckX9_init_2 : (qX9_init_2 []).all (ceB mX9_init) = true := by decide +kernel
theorem qaX9_init_0 (r : List CE) : qX9_init_0 r = qX9_init_0 [] ++ r := rfl
theorem qaX9_init_1 (r : List CE) : qX9_init_1 r = qX9_init_1 [] ++ r := rfl
theorem ckX9_init : mX9_init.2.1.all (ceB mX9_init) = true := by
  show (qX9_init_0 (qX9_init_1 (qX9_init_2 []))).all (ceB mX9_init) = true
  rw [qaX9_init_0, List.all_append, ckX9_init_0, Bool.true_and, qaX9_init_1, List.all_append, ckX9_init_1, Bool.true_and]
  exact ckX9_init_2
theorem ckX9_beginRights : mX9_beginRights.2.1.all (ceB mX9_beginRights) = true := by decide +kernel
theorem ckX9_useRights : mX9_useRights.2.1.all (ceB mX9_useRights) = true := by decide +kernel
theorem ckX9_go : mX9_go.2.1.all (ceB mX9_go) = true := by decide +kernel
theorem ckX9_in : mX9_in.2.1.all (ceB mX9_in) = true := by decide +kernel
theorem ckX9_page : mX9_page.2.1.all (ceB mX9_page) = true := by decide +kernel
theorem ckX9_look_0 : (qX9_look_0 []).all (ceB mX9_look) = true := by decide +kernel
theorem ckX9_look_1 : (qX9_look_1 []).all (ceB mX9_look) = true := by decide +kernel
theorem ckX9_look_2 : (qX9_look_2 []).all (ceB mX9_look) = true := by decide +kernel
theorem qaX9_look_0 (r : List CE) : qX9_look_0 r = qX9_look_0 [] ++ r := rfl
theorem qaX9_look_1 (r : List CE) : qX9_look_1 r = qX9_look_1 [] ++ r := rfl
theorem ckX9_look : mX9_look.2.1.all (ceB mX9_look) = true := by
  show (qX9_look_0 (qX9_look_1 (qX9_look_2 []))).all (ceB mX9_look) = true
  rw [qaX9_look_0, List.all_append, ckX9_look_0, Bool.true_and, qaX9_look_1, List.all_append, ckX9_look_1, Bool.true_and]
  exact ckX9_look_2
theorem ckX9_noPage : mX9_noPage.2.1.all (ceB mX9_noPage) = true := by decide +kernel
theorem ckX9_isLet : mX9_isLet.2.1.all (ceB mX9_isLet) = true := by decide +kernel
theorem ckX9_take_0 : (qX9_take_0 []).all (ceB mX9_take) = true := by decide +kernel
theorem ckX9_take_1 : (qX9_take_1 []).all (ceB mX9_take) = true := by decide +kernel
theorem qaX9_take_0 (r : List CE) : qX9_take_0 r = qX9_take_0 [] ++ r := rfl
theorem ckX9_take : mX9_take.2.1.all (ceB mX9_take) = true := by
  show (qX9_take_0 (qX9_take_1 [])).all (ceB mX9_take) = true
  rw [qaX9_take_0, List.all_append, ckX9_take_0, Bool.true_and]
  exact ckX9_take_1
theorem ckX9_noLook : mX9_noLook.2.1.all (ceB mX9_noLook) = true := by decide +kernel
theorem ckX9_told_0 : (qX9_told_0 []).all (ceB mX9_told) = true := by decide +kernel
theorem ckX9_told_1 : (qX9_told_1 []).all (ceB mX9_told) = true := by decide +kernel
theorem qaX9_told_0 (r : List CE) : qX9_told_0 r = qX9_told_0 [] ++ r := rfl
theorem ckX9_told : mX9_told.2.1.all (ceB mX9_told) = true := by
  show (qX9_told_0 (qX9_told_1 [])).all (ceB mX9_told) = true
  rw [qaX9_told_0, List.all_append, ckX9_told_0, Bool.true_and]
  exact ckX9_told_1
theorem ckX9_ones : mX9_ones.2.1.all (ceB mX9_ones) = true := by decide +kernel
theorem ckX9_one : mX9_one.2.1.all (ceB mX9_one) = true := by decide +kernel
theorem ckX9_pieces : mX9_pieces.2.1.all (ceB mX9_pieces) = true := by decide +kernel
theorem ckX9_view : mX9_view.2.1.all (ceB mX9_view) = true := by decide +kernel
theorem ckX9_findViews : mX9_findViews.2.1.all (ceB mX9_findViews) = true := by decide +kernel
theorem ckX9_isView : mX9_isView.2.1.all (ceB mX9_isView) = true := by decide +kernel
theorem ckX9_count_0 : (qX9_count_0 []).all (ceB mX9_count) = true := by decide +kernel
theorem ckX9_count_1 : (qX9_count_1 []).all (ceB mX9_count) = true := by decide +kernel
theorem qaX9_count_0 (r : List CE) : qX9_count_0 r = qX9_count_0 [] ++ r := rfl
theorem ckX9_count : mX9_count.2.1.all (ceB mX9_count) = true := by
  show (qX9_count_0 (qX9_count_1 [])).all (ceB mX9_count) = true
  rw [qaX9_count_0, List.all_append, ckX9_count_0, Bool.true_and]
  exact ckX9_count_1
theorem ckX9_allViews : mX9_allViews.2.1.all (ceB mX9_allViews) = true := by decide +kernel
theorem ckX9_allPieces : mX9_allPieces.2.1.all (ceB mX9_allPieces) = true := by decide +kernel
theorem ckX9_feed : mX9_feed.2.1.all (ceB mX9_feed) = true := by decide +kernel
theorem ckX9_read : mX9_read.2.1.all (ceB mX9_read) = true := by decide +kernel
theorem ckX9_startText : mX9_startText.2.1.all (ceB mX9_startText) = true := by decide +kernel
theorem ckX9_peek : mX9_peek.2.1.all (ceB mX9_peek) = true := by decide +kernel
theorem ckX9_readRight_0 : (qX9_readRight_0 []).all (ceB mX9_readRight) = true := by decide +kernel
theorem ckX9_readRight_1 : (qX9_readRight_1 []).all (ceB mX9_readRight) = true := by decide +kernel
theorem ckX9_readRight_2 : (qX9_readRight_2 []).all (ceB mX9_readRight) = true := by decide +kernel
theorem qaX9_readRight_0 (r : List CE) : qX9_readRight_0 r = qX9_readRight_0 [] ++ r := rfl
theorem qaX9_readRight_1 (r : List CE) : qX9_readRight_1 r = qX9_readRight_1 [] ++ r := rfl
theorem ckX9_readRight : mX9_readRight.2.1.all (ceB mX9_readRight) = true := by
  show (qX9_readRight_0 (qX9_readRight_1 (qX9_readRight_2 []))).all (ceB mX9_readRight) = true
  rw [qaX9_readRight_0, List.all_append, ckX9_readRight_0, Bool.true_and, qaX9_readRight_1, List.all_append, ckX9_readRight_1, Bool.true_and]
  exact ckX9_readRight_2
theorem ckX9_takeWord : mX9_takeWord.2.1.all (ceB mX9_takeWord) = true := by decide +kernel
theorem ckX9_isWord_0 : (qX9_isWord_0 []).all (ceB mX9_isWord) = true := by decide +kernel
theorem ckX9_isWord_1 : (qX9_isWord_1 []).all (ceB mX9_isWord) = true := by decide +kernel
theorem qaX9_isWord_0 (r : List CE) : qX9_isWord_0 r = qX9_isWord_0 [] ++ r := rfl
theorem ckX9_isWord : mX9_isWord.2.1.all (ceB mX9_isWord) = true := by
  show (qX9_isWord_0 (qX9_isWord_1 [])).all (ceB mX9_isWord) = true
  rw [qaX9_isWord_0, List.all_append, ckX9_isWord_0, Bool.true_and]
  exact ckX9_isWord_1
theorem ckX9_readNever : mX9_readNever.2.1.all (ceB mX9_readNever) = true := by decide +kernel
theorem ckX9_takeNumber_0 : (qX9_takeNumber_0 []).all (ceB mX9_takeNumber) = true := by decide +kernel
theorem ckX9_takeNumber_1 : (qX9_takeNumber_1 []).all (ceB mX9_takeNumber) = true := by decide +kernel
theorem ckX9_takeNumber_2 : (qX9_takeNumber_2 []).all (ceB mX9_takeNumber) = true := by decide +kernel
theorem qaX9_takeNumber_0 (r : List CE) : qX9_takeNumber_0 r = qX9_takeNumber_0 [] ++ r := rfl
theorem qaX9_takeNumber_1 (r : List CE) : qX9_takeNumber_1 r = qX9_takeNumber_1 [] ++ r := rfl
theorem ckX9_takeNumber : mX9_takeNumber.2.1.all (ceB mX9_takeNumber) = true := by
  show (qX9_takeNumber_0 (qX9_takeNumber_1 (qX9_takeNumber_2 []))).all (ceB mX9_takeNumber) = true
  rw [qaX9_takeNumber_0, List.all_append, ckX9_takeNumber_0, Bool.true_and, qaX9_takeNumber_1, List.all_append, ckX9_takeNumber_1, Bool.true_and]
  exact ckX9_takeNumber_2
theorem ckX9_want : mX9_want.2.1.all (ceB mX9_want) = true := by decide +kernel
theorem ckX9_once : mX9_once.2.1.all (ceB mX9_once) = true := by decide +kernel
theorem ckX9_readLet : mX9_readLet.2.1.all (ceB mX9_readLet) = true := by decide +kernel
theorem ckX9_readClothes_0 : (qX9_readClothes_0 []).all (ceB mX9_readClothes) = true := by decide +kernel
theorem ckX9_readClothes_1 : (qX9_readClothes_1 []).all (ceB mX9_readClothes) = true := by decide +kernel
theorem qaX9_readClothes_0 (r : List CE) : qX9_readClothes_0 r = qX9_readClothes_0 [] ++ r := rfl
theorem ckX9_readClothes : mX9_readClothes.2.1.all (ceB mX9_readClothes) = true := by
  show (qX9_readClothes_0 (qX9_readClothes_1 [])).all (ceB mX9_readClothes) = true
  rw [qaX9_readClothes_0, List.all_append, ckX9_readClothes_0, Bool.true_and]
  exact ckX9_readClothes_1
theorem ckX9_takeEnd : mX9_takeEnd.2.1.all (ceB mX9_takeEnd) = true := by decide +kernel
theorem ckX9_program_0 : (qX9_program_0 []).all (ceB mX9_program) = true := by decide +kernel
theorem ckX9_program_1 : (qX9_program_1 []).all (ceB mX9_program) = true := by decide +kernel
theorem ckX9_program_2 : (qX9_program_2 []).all (ceB mX9_program) = true := by decide +kernel
theorem qaX9_program_0 (r : List CE) : qX9_program_0 r = qX9_program_0 [] ++ r := rfl
theorem qaX9_program_1 (r : List CE) : qX9_program_1 r = qX9_program_1 [] ++ r := rfl
theorem ckX9_program : mX9_program.2.1.all (ceB mX9_program) = true := by
  show (qX9_program_0 (qX9_program_1 (qX9_program_2 []))).all (ceB mX9_program) = true
  rw [qaX9_program_0, List.all_append, ckX9_program_0, Bool.true_and, qaX9_program_1, List.all_append, ckX9_program_1, Bool.true_and]
  exact ckX9_program_2
theorem ckX9_isClause : mX9_isClause.2.1.all (ceB mX9_isClause) = true := by decide +kernel
theorem ckX9_readClause_0 : (qX9_readClause_0 []).all (ceB mX9_readClause) = true := by decide +kernel
theorem ckX9_readClause_1 : (qX9_readClause_1 []).all (ceB mX9_readClause) = true := by decide +kernel
theorem ckX9_readClause_2 : (qX9_readClause_2 []).all (ceB mX9_readClause) = true := by decide +kernel
theorem qaX9_readClause_0 (r : List CE) : qX9_readClause_0 r = qX9_readClause_0 [] ++ r := rfl
theorem qaX9_readClause_1 (r : List CE) : qX9_readClause_1 r = qX9_readClause_1 [] ++ r := rfl
theorem ckX9_readClause : mX9_readClause.2.1.all (ceB mX9_readClause) = true := by
  show (qX9_readClause_0 (qX9_readClause_1 (qX9_readClause_2 []))).all (ceB mX9_readClause) = true
  rw [qaX9_readClause_0, List.all_append, ckX9_readClause_0, Bool.true_and, qaX9_readClause_1, List.all_append, ckX9_readClause_1, Bool.true_and]
  exact ckX9_readClause_2
theorem ckX9_takeBy : mX9_takeBy.2.1.all (ceB mX9_takeBy) = true := by decide +kernel
theorem ckX9_fault : mX9_fault.2.1.all (ceB mX9_fault) = true := by decide +kernel
theorem ckX9_right : mX9_right.2.1.all (ceB mX9_right) = true := by decide +kernel
theorem ckX9_alike : mX9_alike.2.1.all (ceB mX9_alike) = true := by decide +kernel
theorem ckX9_areAlike : mX9_areAlike.2.1.all (ceB mX9_areAlike) = true := by decide +kernel
theorem ckX9_sure : mX9_sure.2.1.all (ceB mX9_sure) = true := by decide +kernel
theorem ckX9_isTime : mX9_isTime.2.1.all (ceB mX9_isTime) = true := by decide +kernel
theorem ckX9_sureAt : mX9_sureAt.2.1.all (ceB mX9_sureAt) = true := by decide +kernel
theorem ckX9_claims_0 : (qX9_claims_0 []).all (ceB mX9_claims) = true := by decide +kernel
theorem ckX9_claims_1 : (qX9_claims_1 []).all (ceB mX9_claims) = true := by decide +kernel
theorem ckX9_claims_2 : (qX9_claims_2 []).all (ceB mX9_claims) = true := by decide +kernel
theorem qaX9_claims_0 (r : List CE) : qX9_claims_0 r = qX9_claims_0 [] ++ r := rfl
theorem qaX9_claims_1 (r : List CE) : qX9_claims_1 r = qX9_claims_1 [] ++ r := rfl
theorem ckX9_claims : mX9_claims.2.1.all (ceB mX9_claims) = true := by
  show (qX9_claims_0 (qX9_claims_1 (qX9_claims_2 []))).all (ceB mX9_claims) = true
  rw [qaX9_claims_0, List.all_append, ckX9_claims_0, Bool.true_and, qaX9_claims_1, List.all_append, ckX9_claims_1, Bool.true_and]
  exact ckX9_claims_2
theorem ckX9_state : mX9_state.2.1.all (ceB mX9_state) = true := by decide +kernel
theorem ckX9_stateAt : mX9_stateAt.2.1.all (ceB mX9_stateAt) = true := by decide +kernel
theorem ckX9_could_0 : (qX9_could_0 []).all (ceB mX9_could) = true := by decide +kernel
theorem ckX9_could_1 : (qX9_could_1 []).all (ceB mX9_could) = true := by decide +kernel
theorem ckX9_could_2 : (qX9_could_2 []).all (ceB mX9_could) = true := by decide +kernel
theorem qaX9_could_0 (r : List CE) : qX9_could_0 r = qX9_could_0 [] ++ r := rfl
theorem qaX9_could_1 (r : List CE) : qX9_could_1 r = qX9_could_1 [] ++ r := rfl
theorem ckX9_could : mX9_could.2.1.all (ceB mX9_could) = true := by
  show (qX9_could_0 (qX9_could_1 (qX9_could_2 []))).all (ceB mX9_could) = true
  rw [qaX9_could_0, List.all_append, ckX9_could_0, Bool.true_and, qaX9_could_1, List.all_append, ckX9_could_1, Bool.true_and]
  exact ckX9_could_2
theorem ckX9_hours_0 : (qX9_hours_0 []).all (ceB mX9_hours) = true := by decide +kernel
theorem ckX9_hours_1 : (qX9_hours_1 []).all (ceB mX9_hours) = true := by decide +kernel
theorem qaX9_hours_0 (r : List CE) : qX9_hours_0 r = qX9_hours_0 [] ++ r := rfl
theorem ckX9_hours : mX9_hours.2.1.all (ceB mX9_hours) = true := by
  show (qX9_hours_0 (qX9_hours_1 [])).all (ceB mX9_hours) = true
  rw [qaX9_hours_0, List.all_append, ckX9_hours_0, Bool.true_and]
  exact ckX9_hours_1
theorem ckX9_part_0 : (qX9_part_0 []).all (ceB mX9_part) = true := by decide +kernel
theorem ckX9_part_1 : (qX9_part_1 []).all (ceB mX9_part) = true := by decide +kernel
theorem qaX9_part_0 (r : List CE) : qX9_part_0 r = qX9_part_0 [] ++ r := rfl
theorem ckX9_part : mX9_part.2.1.all (ceB mX9_part) = true := by
  show (qX9_part_0 (qX9_part_1 [])).all (ceB mX9_part) = true
  rw [qaX9_part_0, List.all_append, ckX9_part_0, Bool.true_and]
  exact ckX9_part_1
theorem ckX9_wipe : mX9_wipe.2.1.all (ceB mX9_wipe) = true := by decide +kernel
theorem ckX9_whole : mX9_whole.2.1.all (ceB mX9_whole) = true := by decide +kernel
theorem ckX9_findWhole_0 : (qX9_findWhole_0 []).all (ceB mX9_findWhole) = true := by decide +kernel
theorem ckX9_findWhole_1 : (qX9_findWhole_1 []).all (ceB mX9_findWhole) = true := by decide +kernel
theorem ckX9_findWhole_2 : (qX9_findWhole_2 []).all (ceB mX9_findWhole) = true := by decide +kernel
theorem ckX9_findWhole_3 : (qX9_findWhole_3 []).all (ceB mX9_findWhole) = true := by decide +kernel
theorem ckX9_findWhole_4 : (qX9_findWhole_4 []).all (ceB mX9_findWhole) = true := by decide +kernel
theorem qaX9_findWhole_0 (r : List CE) : qX9_findWhole_0 r = qX9_findWhole_0 [] ++ r := rfl
theorem qaX9_findWhole_1 (r : List CE) : qX9_findWhole_1 r = qX9_findWhole_1 [] ++ r := rfl
theorem qaX9_findWhole_2 (r : List CE) : qX9_findWhole_2 r = qX9_findWhole_2 [] ++ r := rfl
theorem qaX9_findWhole_3 (r : List CE) : qX9_findWhole_3 r = qX9_findWhole_3 [] ++ r := rfl
theorem ckX9_findWhole : mX9_findWhole.2.1.all (ceB mX9_findWhole) = true := by
  show (qX9_findWhole_0 (qX9_findWhole_1 (qX9_findWhole_2 (qX9_findWhole_3 (qX9_findWhole_4 []))))).all (ceB mX9_findWhole) = true
  rw [qaX9_findWhole_0, List.all_append, ckX9_findWhole_0, Bool.true_and, qaX9_findWhole_1, List.all_append, ckX9_findWhole_1, Bool.true_and, qaX9_findWhole_2, List.all_append, ckX9_findWhole_2, Bool.true_and, qaX9_findWhole_3, List.all_append, ckX9_findWhole_3, Bool.true_and]
  exact ckX9_findWhole_4
theorem ckX9_bothWays_0 : (qX9_bothWays_0 []).all (ceB mX9_bothWays) = true := by decide +kernel
theorem ckX9_bothWays_1 : (qX9_bothWays_1 []).all (ceB mX9_bothWays) = true := by decide +kernel
theorem qaX9_bothWays_0 (r : List CE) : qX9_bothWays_0 r = qX9_bothWays_0 [] ++ r := rfl
theorem ckX9_bothWays : mX9_bothWays.2.1.all (ceB mX9_bothWays) = true := by
  show (qX9_bothWays_0 (qX9_bothWays_1 [])).all (ceB mX9_bothWays) = true
  rw [qaX9_bothWays_0, List.all_append, ckX9_bothWays_0, Bool.true_and]
  exact ckX9_bothWays_1
theorem ckX9_isBothWays_0 : (qX9_isBothWays_0 []).all (ceB mX9_isBothWays) = true := by decide +kernel
theorem ckX9_isBothWays_1 : (qX9_isBothWays_1 []).all (ceB mX9_isBothWays) = true := by decide +kernel
theorem ckX9_isBothWays_2 : (qX9_isBothWays_2 []).all (ceB mX9_isBothWays) = true := by decide +kernel
theorem qaX9_isBothWays_0 (r : List CE) : qX9_isBothWays_0 r = qX9_isBothWays_0 [] ++ r := rfl
theorem qaX9_isBothWays_1 (r : List CE) : qX9_isBothWays_1 r = qX9_isBothWays_1 [] ++ r := rfl
theorem ckX9_isBothWays : mX9_isBothWays.2.1.all (ceB mX9_isBothWays) = true := by
  show (qX9_isBothWays_0 (qX9_isBothWays_1 (qX9_isBothWays_2 []))).all (ceB mX9_isBothWays) = true
  rw [qaX9_isBothWays_0, List.all_append, ckX9_isBothWays_0, Bool.true_and, qaX9_isBothWays_1, List.all_append, ckX9_isBothWays_1, Bool.true_and]
  exact ckX9_isBothWays_2
theorem ckX9_rate : mX9_rate.2.1.all (ceB mX9_rate) = true := by decide +kernel
theorem ckX9_rateOf_0 : (qX9_rateOf_0 []).all (ceB mX9_rateOf) = true := by decide +kernel
theorem ckX9_rateOf_1 : (qX9_rateOf_1 []).all (ceB mX9_rateOf) = true := by decide +kernel
theorem qaX9_rateOf_0 (r : List CE) : qX9_rateOf_0 r = qX9_rateOf_0 [] ++ r := rfl
theorem ckX9_rateOf : mX9_rateOf.2.1.all (ceB mX9_rateOf) = true := by
  show (qX9_rateOf_0 (qX9_rateOf_1 [])).all (ceB mX9_rateOf) = true
  rw [qaX9_rateOf_0, List.all_append, ckX9_rateOf_0, Bool.true_and]
  exact ckX9_rateOf_1
theorem ckX9_plan_0 : (qX9_plan_0 []).all (ceB mX9_plan) = true := by decide +kernel
theorem ckX9_plan_1 : (qX9_plan_1 []).all (ceB mX9_plan) = true := by decide +kernel
theorem ckX9_plan_2 : (qX9_plan_2 []).all (ceB mX9_plan) = true := by decide +kernel
theorem qaX9_plan_0 (r : List CE) : qX9_plan_0 r = qX9_plan_0 [] ++ r := rfl
theorem qaX9_plan_1 (r : List CE) : qX9_plan_1 r = qX9_plan_1 [] ++ r := rfl
theorem ckX9_plan : mX9_plan.2.1.all (ceB mX9_plan) = true := by
  show (qX9_plan_0 (qX9_plan_1 (qX9_plan_2 []))).all (ceB mX9_plan) = true
  rw [qaX9_plan_0, List.all_append, ckX9_plan_0, Bool.true_and, qaX9_plan_1, List.all_append, ckX9_plan_1, Bool.true_and]
  exact ckX9_plan_2
theorem ckX9_worthOf : mX9_worthOf.2.1.all (ceB mX9_worthOf) = true := by decide +kernel
theorem ckX9_findPlan_0 : (qX9_findPlan_0 []).all (ceB mX9_findPlan) = true := by decide +kernel
theorem ckX9_findPlan_1 : (qX9_findPlan_1 []).all (ceB mX9_findPlan) = true := by decide +kernel
theorem ckX9_findPlan_2 : (qX9_findPlan_2 []).all (ceB mX9_findPlan) = true := by decide +kernel
theorem qaX9_findPlan_0 (r : List CE) : qX9_findPlan_0 r = qX9_findPlan_0 [] ++ r := rfl
theorem qaX9_findPlan_1 (r : List CE) : qX9_findPlan_1 r = qX9_findPlan_1 [] ++ r := rfl
theorem ckX9_findPlan : mX9_findPlan.2.1.all (ceB mX9_findPlan) = true := by
  show (qX9_findPlan_0 (qX9_findPlan_1 (qX9_findPlan_2 []))).all (ceB mX9_findPlan) = true
  rw [qaX9_findPlan_0, List.all_append, ckX9_findPlan_0, Bool.true_and, qaX9_findPlan_1, List.all_append, ckX9_findPlan_1, Bool.true_and]
  exact ckX9_findPlan_2
theorem ckX9_mayKnock_0 : (qX9_mayKnock_0 []).all (ceB mX9_mayKnock) = true := by decide +kernel
theorem ckX9_mayKnock_1 : (qX9_mayKnock_1 []).all (ceB mX9_mayKnock) = true := by decide +kernel
theorem qaX9_mayKnock_0 (r : List CE) : qX9_mayKnock_0 r = qX9_mayKnock_0 [] ++ r := rfl
theorem ckX9_mayKnock : mX9_mayKnock.2.1.all (ceB mX9_mayKnock) = true := by
  show (qX9_mayKnock_0 (qX9_mayKnock_1 [])).all (ceB mX9_mayKnock) = true
  rw [qaX9_mayKnock_0, List.all_append, ckX9_mayKnock_0, Bool.true_and]
  exact ckX9_mayKnock_1
theorem ckX9_hasUpTo : mX9_hasUpTo.2.1.all (ceB mX9_hasUpTo) = true := by decide +kernel
theorem ckX9_usedUpTo : mX9_usedUpTo.2.1.all (ceB mX9_usedUpTo) = true := by decide +kernel
theorem ckX9_moreFrom_0 : (qX9_moreFrom_0 []).all (ceB mX9_moreFrom) = true := by decide +kernel
theorem ckX9_moreFrom_1 : (qX9_moreFrom_1 []).all (ceB mX9_moreFrom) = true := by decide +kernel
theorem ckX9_moreFrom_2 : (qX9_moreFrom_2 []).all (ceB mX9_moreFrom) = true := by decide +kernel
theorem qaX9_moreFrom_0 (r : List CE) : qX9_moreFrom_0 r = qX9_moreFrom_0 [] ++ r := rfl
theorem qaX9_moreFrom_1 (r : List CE) : qX9_moreFrom_1 r = qX9_moreFrom_1 [] ++ r := rfl
theorem ckX9_moreFrom : mX9_moreFrom.2.1.all (ceB mX9_moreFrom) = true := by
  show (qX9_moreFrom_0 (qX9_moreFrom_1 (qX9_moreFrom_2 []))).all (ceB mX9_moreFrom) = true
  rw [qaX9_moreFrom_0, List.all_append, ckX9_moreFrom_0, Bool.true_and, qaX9_moreFrom_1, List.all_append, ckX9_moreFrom_1, Bool.true_and]
  exact ckX9_moreFrom_2
theorem ckX9_links : mX9_links.2.1.all (ceB mX9_links) = true := by decide +kernel
theorem ckX9_linkMany : mX9_linkMany.2.1.all (ceB mX9_linkMany) = true := by decide +kernel
theorem ckX9_linkAt_0 : (qX9_linkAt_0 []).all (ceB mX9_linkAt) = true := by decide +kernel
theorem ckX9_linkAt_1 : (qX9_linkAt_1 []).all (ceB mX9_linkAt) = true := by decide +kernel
theorem qaX9_linkAt_0 (r : List CE) : qX9_linkAt_0 r = qX9_linkAt_0 [] ++ r := rfl
theorem ckX9_linkAt : mX9_linkAt.2.1.all (ceB mX9_linkAt) = true := by
  show (qX9_linkAt_0 (qX9_linkAt_1 [])).all (ceB mX9_linkAt) = true
  rw [qaX9_linkAt_0, List.all_append, ckX9_linkAt_0, Bool.true_and]
  exact ckX9_linkAt_1
theorem ckX9_more : mX9_more.2.1.all (ceB mX9_more) = true := by decide +kernel
theorem ckX9_isTrap : mX9_isTrap.2.1.all (ceB mX9_isTrap) = true := by decide +kernel
theorem ckX9_likeness : mX9_likeness.2.1.all (ceB mX9_likeness) = true := by decide +kernel
theorem ckX9_isSeen : mX9_isSeen.2.1.all (ceB mX9_isSeen) = true := by decide +kernel
theorem ckX9_likenessOf : mX9_likenessOf.2.1.all (ceB mX9_likenessOf) = true := by decide +kernel
theorem ckX9_moved_0 : (qX9_moved_0 []).all (ceB mX9_moved) = true := by decide +kernel
theorem ckX9_moved_1 : (qX9_moved_1 []).all (ceB mX9_moved) = true := by decide +kernel
theorem ckX9_moved_2 : (qX9_moved_2 []).all (ceB mX9_moved) = true := by decide +kernel
theorem qaX9_moved_0 (r : List CE) : qX9_moved_0 r = qX9_moved_0 [] ++ r := rfl
theorem qaX9_moved_1 (r : List CE) : qX9_moved_1 r = qX9_moved_1 [] ++ r := rfl
theorem ckX9_moved : mX9_moved.2.1.all (ceB mX9_moved) = true := by
  show (qX9_moved_0 (qX9_moved_1 (qX9_moved_2 []))).all (ceB mX9_moved) = true
  rw [qaX9_moved_0, List.all_append, ckX9_moved_0, Bool.true_and, qaX9_moved_1, List.all_append, ckX9_moved_1, Bool.true_and]
  exact ckX9_moved_2
theorem ckX9_lastView : mX9_lastView.2.1.all (ceB mX9_lastView) = true := by decide +kernel
theorem ckX9_lose : mX9_lose.2.1.all (ceB mX9_lose) = true := by decide +kernel
theorem ckX9_isHouse : mX9_isHouse.2.1.all (ceB mX9_isHouse) = true := by decide +kernel
theorem ckX9_words_0 : (qX9_words_0 []).all (ceB mX9_words) = true := by decide +kernel
theorem ckX9_words_1 : (qX9_words_1 []).all (ceB mX9_words) = true := by decide +kernel
theorem qaX9_words_0 (r : List CE) : qX9_words_0 r = qX9_words_0 [] ++ r := rfl
theorem ckX9_words : mX9_words.2.1.all (ceB mX9_words) = true := by
  show (qX9_words_0 (qX9_words_1 [])).all (ceB mX9_words) = true
  rw [qaX9_words_0, List.all_append, ckX9_words_0, Bool.true_and]
  exact ckX9_words_1
theorem ckX9_mend : mX9_mend.2.1.all (ceB mX9_mend) = true := by decide +kernel
theorem ckX9_shown_0 : (qX9_shown_0 []).all (ceB mX9_shown) = true := by decide +kernel
theorem ckX9_shown_1 : (qX9_shown_1 []).all (ceB mX9_shown) = true := by decide +kernel
theorem qaX9_shown_0 (r : List CE) : qX9_shown_0 r = qX9_shown_0 [] ++ r := rfl
theorem ckX9_shown : mX9_shown.2.1.all (ceB mX9_shown) = true := by
  show (qX9_shown_0 (qX9_shown_1 [])).all (ceB mX9_shown) = true
  rw [qaX9_shown_0, List.all_append, ckX9_shown_0, Bool.true_and]
  exact ckX9_shown_1
theorem ckX9_since_0 : (qX9_since_0 []).all (ceB mX9_since) = true := by decide +kernel
theorem ckX9_since_1 : (qX9_since_1 []).all (ceB mX9_since) = true := by decide +kernel
theorem qaX9_since_0 (r : List CE) : qX9_since_0 r = qX9_since_0 [] ++ r := rfl
theorem ckX9_since : mX9_since.2.1.all (ceB mX9_since) = true := by
  show (qX9_since_0 (qX9_since_1 [])).all (ceB mX9_since) = true
  rw [qaX9_since_0, List.all_append, ckX9_since_0, Bool.true_and]
  exact ckX9_since_1
theorem ckX9_has : mX9_has.2.1.all (ceB mX9_has) = true := by decide +kernel
theorem ckX9_earliestBy : mX9_earliestBy.2.1.all (ceB mX9_earliestBy) = true := by decide +kernel
theorem ckX9_latestBy : mX9_latestBy.2.1.all (ceB mX9_latestBy) = true := by decide +kernel
theorem ckX9_first_0 : (qX9_first_0 []).all (ceB mX9_first) = true := by decide +kernel
theorem ckX9_first_1 : (qX9_first_1 []).all (ceB mX9_first) = true := by decide +kernel
theorem qaX9_first_0 (r : List CE) : qX9_first_0 r = qX9_first_0 [] ++ r := rfl
theorem ckX9_first : mX9_first.2.1.all (ceB mX9_first) = true := by
  show (qX9_first_0 (qX9_first_1 [])).all (ceB mX9_first) = true
  rw [qaX9_first_0, List.all_append, ckX9_first_0, Bool.true_and]
  exact ckX9_first_1
theorem ckX9_firstWith : mX9_firstWith.2.1.all (ceB mX9_firstWith) = true := by decide +kernel
theorem ckX9_nowhere : mX9_nowhere.2.1.all (ceB mX9_nowhere) = true := by decide +kernel
