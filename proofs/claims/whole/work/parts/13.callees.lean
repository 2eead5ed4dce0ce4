/-! callees' words; truth values as ints -/
noncomputable def bI (P : Prop) : Int32 := @ite Int32 P (Classical.propDecidable P) 1 0
theorem bI_t {P : Prop} (h : P) : bI P = 1 := @if_pos P (Classical.propDecidable P) h Int32 1 0
theorem bI_f {P : Prop} (h : ¬ P) : bI P = 0 := @if_neg P (Classical.propDecidable P) h Int32 1 0
theorem bI_eq0 {P : Prop} : bI P = 0 ↔ ¬ P := ⟨fun h hp => by rw [bI_t hp] at h; exact absurd h (by decide), bI_f⟩
theorem bI_ne0 {P : Prop} : ¬ bI P = 0 ↔ P := by rw [bI_eq0]; exact Classical.not_not
theorem bI_narrow {P : Prop} : narrow .boolean (.int (bI P)) = .int (bI P) := by
  rcases Classical.em P with h | h
  · rw [bI_t h]; rfl
  · rw [bI_f h]; rfl
theorem bI_congr {P Q : Prop} (h : P ↔ Q) : bI P = bI Q := by rw [propext h]
theorem nI_tn {x : Int32} (h : ¬ x < 0) : x = nI x.toNatClampNeg := by
  obtain ⟨j, hj, rfl⟩ := nI_of h
  rw [nI_clamp hj]
theorem tn_lt {x : Int32} {n : Nat} (h0 : ¬ x < 0) (h : ¬ nI n ≤ x) (hn : n < 2 ^ 31) : x.toNatClampNeg < n := by
  obtain ⟨j, hj, rfl⟩ := nI_of h0
  rw [nI_clamp hj]
  exact Nat.not_le.mp fun q => h (nI_le q hj)
/-- f below i, else f0 -/
def pre (i : Nat) (f f0 : Nat → Int32) : Nat → Int32 := fun j => if j < i then f j else f0 j
theorem pre_0 {f f0 : Nat → Int32} : pre 0 f f0 = f0 := by funext j; simp [pre]
theorem pre_up {i : Nat} {f f0 : Nat → Int32} {x : Int32} (h : x = f i) : upd (pre i f f0) i x = pre (i + 1) f f0 := by
  funext j
  simp only [upd, pre]
  by_cases h1 : j = i
  · subst h1; simp [h]
  · by_cases h2 : j < i
    · rw [if_neg h1, if_pos h2, if_pos (by omega)]
    · rw [if_neg h1, if_neg h2, if_neg (by omega)]
theorem pre_same {i : Nat} {f f0 : Nat → Int32} (h : f0 i = f i) : pre i f f0 = pre (i + 1) f f0 := by
  funext j
  simp only [pre]
  by_cases h1 : j = i
  · subst h1; simp [h]
  · by_cases h2 : j < i
    · rw [if_pos h2, if_pos (by omega)]
    · rw [if_neg h2, if_neg (by omega)]
theorem pre_at {i : Nat} {f f0 : Nat → Int32} : pre i f f0 i = f0 i := by simp [pre]
theorem pre_lo {i j : Nat} {f f0 : Nat → Int32} (h : j < i) : pre i f f0 j = f j := by simp [pre, h]
theorem pre_hi {i j : Nat} {f f0 : Nat → Int32} (h : i ≤ j) : pre i f f0 j = f0 j := by simp [pre, Nat.not_lt.mpr h]
theorem CI.to {g : Geo} {A : Nat → Prop} {s : State} {w w2 : va_W} {H : Heap} {locs : List Loc} (h : CI g A s w H locs) (e : w = w2) : CI g A s w2 H locs := e ▸ h
theorem ok_TX_init : OKc y_TX_init b_TX_init 1 none 0 := ⟨m1_32, m1_2, by decide, by decide, by decide +kernel⟩
theorem ok_TX_tellRange : OKc y_TX_tellRange b_TX_tellRange 5 none 3 := ⟨m2_229, m1_2, by decide, by decide, by decide +kernel⟩
theorem ok_TX_append : OKc y_TX_append b_TX_append 2 none 1 := ⟨m3_43, m1_2, by decide, by decide, by decide +kernel⟩
theorem ok_TX_classOf : OKc y_TX_classOf b_TX_classOf 3 (some .int) 1 := ⟨m3_47, m1_2, by decide, by decide, by decide +kernel⟩
theorem ok_PR_init : OKc y_PR_init b_PR_init 1 none 0 := ⟨m1_94, m1_3, by decide, by decide, by decide +kernel⟩
theorem ok_PR_tell : OKc y_PR_tell b_PR_tell 3 none 2 := ⟨m3_23, m1_3, by decide, by decide, by decide +kernel⟩
theorem ok_PR_has : OKc y_PR_has b_PR_has 2 (some .boolean) 1 := ⟨m3_5, m1_3, by decide, by decide, by decide +kernel⟩
theorem ok_PR_partnerOf : OKc y_PR_partnerOf b_PR_partnerOf 3 (some .int) 1 := ⟨m3_9, m1_3, by decide, by decide, by decide +kernel⟩
theorem ok_PR_otherOf : OKc y_PR_otherOf b_PR_otherOf 3 (some .int) 1 := ⟨m3_13, m1_3, by decide, by decide, by decide +kernel⟩
theorem ok_PR_oneOf : OKc y_PR_oneOf b_PR_oneOf 3 (some .int) 1 := ⟨m3_17, m1_3, by decide, by decide, by decide +kernel⟩
theorem ok_IS_init : OKc y_IS_init b_IS_init 2 none 1 := ⟨m1_117, m1_5, by decide, by decide, by decide +kernel⟩
theorem ok_IS_findMatches : OKc y_IS_findMatches b_IS_findMatches 5 none 2 := ⟨m3_67, m1_5, by decide, by decide, by decide +kernel⟩
theorem ok_IS_directionIn : OKc y_IS_directionIn b_IS_directionIn 5 (some .int) 2 := ⟨m3_74, m1_5, by decide, by decide, by decide +kernel⟩
theorem ok_IS_directionOfIsolate : OKc y_IS_directionOfIsolate b_IS_directionOfIsolate 5 (some .int) 2 := ⟨m3_120, m1_5, by decide, by decide, by decide +kernel⟩
theorem ok_EX_init : OKc y_EX_init b_EX_init 3 none 2 := ⟨m1_130, m1_6, by decide, by decide, by decide +kernel⟩
theorem ok_EX_giveLevels : OKc y_EX_giveLevels b_EX_giveLevels 5 none 3 := ⟨m3_81, m1_6, by decide, by decide, by decide +kernel⟩
theorem ok_EX_giveLevel : OKc y_EX_giveLevel b_EX_giveLevel 5 none 3 := ⟨m3_85, m1_6, by decide, by decide, by decide +kernel⟩
theorem ok_EX_remove : OKc y_EX_remove b_EX_remove 2 none 1 := ⟨m3_111, m1_6, by decide, by decide, by decide +kernel⟩
theorem ok_EX_takeTop : OKc y_EX_takeTop b_EX_takeTop 3 none 1 := ⟨m3_116, m1_6, by decide, by decide, by decide +kernel⟩
theorem ok_EX_openEmbedding : OKc y_EX_openEmbedding b_EX_openEmbedding 4 none 1 := ⟨m3_92, m1_6, by decide, by decide, by decide +kernel⟩
theorem ok_EX_openIsolate : OKc y_EX_openIsolate b_EX_openIsolate 3 none 1 := ⟨m3_125, m1_6, by decide, by decide, by decide +kernel⟩
theorem ok_EX_closeIsolate : OKc y_EX_closeIsolate b_EX_closeIsolate 1 none 0 := ⟨m3_129, m1_6, by decide, by decide, by decide +kernel⟩
theorem ok_EX_closeEmbedding : OKc y_EX_closeEmbedding b_EX_closeEmbedding 1 none 0 := ⟨m3_134, m1_6, by decide, by decide, by decide +kernel⟩
theorem ok_EX_nextLevel : OKc y_EX_nextLevel b_EX_nextLevel 3 (some .int) 1 := ⟨m3_96, m1_6, by decide, by decide, by decide +kernel⟩
theorem ok_EX_canOpen : OKc y_EX_canOpen b_EX_canOpen 2 (some .boolean) 1 := ⟨m3_103, m1_6, by decide, by decide, by decide +kernel⟩
theorem ok_EX_push : OKc y_EX_push b_EX_push 4 none 3 := ⟨m3_107, m1_6, by decide, by decide, by decide +kernel⟩
theorem ok_RU_init : OKc y_RU_init b_RU_init 2 none 1 := ⟨m1_165, m1_7, by decide, by decide, by decide +kernel⟩
theorem ok_RU_findRuns : OKc y_RU_findRuns b_RU_findRuns 4 none 2 := ⟨m3_138, m1_7, by decide, by decide, by decide +kernel⟩
theorem ok_RU_appendLeft : OKc y_RU_appendLeft b_RU_appendLeft 2 none 1 := ⟨m3_142, m1_7, by decide, by decide, by decide +kernel⟩
theorem ok_RU_beginsSequence : OKc y_RU_beginsSequence b_RU_beginsSequence 3 (some .boolean) 1 := ⟨m3_150, m1_7, by decide, by decide, by decide +kernel⟩
theorem ok_RU_gather : OKc y_RU_gather b_RU_gather 10 none 3 := ⟨m3_154, m1_7, by decide, by decide, by decide +kernel⟩
theorem ok_RU_runBehind : OKc y_RU_runBehind b_RU_runBehind 4 (some .int) 1 := ⟨m3_167, m1_7, by decide, by decide, by decide +kernel⟩
theorem ok_RU_levelBehind : OKc y_RU_levelBehind b_RU_levelBehind 4 (some .int) 2 := ⟨m3_174, m1_7, by decide, by decide, by decide +kernel⟩
theorem ok_SQ_init : OKc y_SQ_init b_SQ_init 2 none 1 := ⟨m1_194, m1_8, by decide, by decide, by decide +kernel⟩
theorem ok_SQ_startAt : OKc y_SQ_startAt b_SQ_startAt 2 none 1 := ⟨m3_158, m1_8, by decide, by decide, by decide +kernel⟩
theorem ok_SQ_append : OKc y_SQ_append b_SQ_append 2 none 1 := ⟨m3_163, m1_8, by decide, by decide, by decide +kernel⟩
theorem ok_SQ_writeKinds : OKc y_SQ_writeKinds b_SQ_writeKinds 2 none 0 := ⟨m4_25, m1_8, by decide, by decide, by decide +kernel⟩
theorem ok_SQ_isNow : OKc y_SQ_isNow b_SQ_isNow 3 (some .boolean) 2 := ⟨m3_207, m1_8, by decide, by decide, by decide +kernel⟩
theorem ok_SQ_wasMark : OKc y_SQ_wasMark b_SQ_wasMark 2 (some .boolean) 1 := ⟨m4_16, m1_8, by decide, by decide, by decide +kernel⟩
theorem ok_SQ_sideAt : OKc y_SQ_sideAt b_SQ_sideAt 2 (some .int) 1 := ⟨m4_4, m1_8, by decide, by decide, by decide +kernel⟩
theorem ok_SQ_settleNeutrals : OKc y_SQ_settleNeutrals b_SQ_settleNeutrals 6 none 0 := ⟨m4_20, m1_8, by decide, by decide, by decide +kernel⟩
theorem ok_WK_init : OKc y_WK_init b_WK_init 3 none 2 := ⟨m1_233, m1_9, by decide, by decide, by decide +kernel⟩
theorem ok_WK_apply : OKc y_WK_apply b_WK_apply 1 none 0 := ⟨m3_178, m1_9, by decide, by decide, by decide +kernel⟩
theorem ok_WK_settleMarks : OKc y_WK_settleMarks b_WK_settleMarks 2 none 0 := ⟨m3_182, m1_9, by decide, by decide, by decide +kernel⟩
theorem ok_WK_classForMark : OKc y_WK_classForMark b_WK_classForMark 3 (some .int) 1 := ⟨m3_186, m1_9, by decide, by decide, by decide +kernel⟩
theorem ok_WK_arabicNumbers : OKc y_WK_arabicNumbers b_WK_arabicNumbers 4 none 0 := ⟨m3_191, m1_9, by decide, by decide, by decide +kernel⟩
theorem ok_WK_arabicLetters : OKc y_WK_arabicLetters b_WK_arabicLetters 2 none 0 := ⟨m3_195, m1_9, by decide, by decide, by decide +kernel⟩
theorem ok_WK_separators : OKc y_WK_separators b_WK_separators 3 none 0 := ⟨m3_199, m1_9, by decide, by decide, by decide +kernel⟩
theorem ok_WK_isBetween : OKc y_WK_isBetween b_WK_isBetween 3 (some .boolean) 2 := ⟨m3_203, m1_9, by decide, by decide, by decide +kernel⟩
theorem ok_WK_terminators : OKc y_WK_terminators b_WK_terminators 4 none 0 := ⟨m3_211, m1_9, by decide, by decide, by decide +kernel⟩
theorem ok_WK_restToNeutral : OKc y_WK_restToNeutral b_WK_restToNeutral 3 none 0 := ⟨m3_215, m1_9, by decide, by decide, by decide +kernel⟩
theorem ok_WK_latinNumbers : OKc y_WK_latinNumbers b_WK_latinNumbers 4 none 0 := ⟨m3_219, m1_9, by decide, by decide, by decide +kernel⟩
theorem ok_BR_init : OKc y_BR_init b_BR_init 4 none 3 := ⟨m2_6, m1_10, by decide, by decide, by decide +kernel⟩
theorem ok_BR_apply : OKc y_BR_apply b_BR_apply 2 none 0 := ⟨m3_223, m1_10, by decide, by decide, by decide +kernel⟩
theorem ok_BR_findPairs : OKc y_BR_findPairs b_BR_findPairs 4 none 0 := ⟨m3_227, m1_10, by decide, by decide, by decide +kernel⟩
theorem ok_BR_closeOne : OKc y_BR_closeOne b_BR_closeOne 4 none 2 := ⟨m3_232, m1_10, by decide, by decide, by decide +kernel⟩
theorem ok_BR_settlePair : OKc y_BR_settlePair b_BR_settlePair 5 none 2 := ⟨m3_236, m1_10, by decide, by decide, by decide +kernel⟩
theorem ok_BR_sideInside : OKc y_BR_sideInside b_BR_sideInside 6 (some .int) 2 := ⟨m4_0, m1_10, by decide, by decide, by decide +kernel⟩
theorem ok_BR_sideBefore : OKc y_BR_sideBefore b_BR_sideBefore 4 (some .int) 1 := ⟨m4_8, m1_10, by decide, by decide, by decide +kernel⟩
theorem ok_BR_give : OKc y_BR_give b_BR_give 4 none 2 := ⟨m4_12, m1_10, by decide, by decide, by decide +kernel⟩
theorem ok_LN_init : OKc y_LN_init b_LN_init 2 none 1 := ⟨m2_76, m1_11, by decide, by decide, by decide +kernel⟩
theorem ok_LN_show : OKc y_LN_show b_LN_show 4 none 3 := ⟨m4_109, m1_11, by decide, by decide, by decide +kernel⟩
theorem ok_LN_setLevels : OKc y_LN_setLevels b_LN_setLevels 9 none 3 := ⟨m4_113, m1_11, by decide, by decide, by decide +kernel⟩
theorem ok_LN_setOrder : OKc y_LN_setOrder b_LN_setOrder 4 none 2 := ⟨m4_118, m1_11, by decide, by decide, by decide +kernel⟩
theorem ok_LN_turnRows : OKc y_LN_turnRows b_LN_turnRows 5 none 0 := ⟨m4_122, m1_11, by decide, by decide, by decide +kernel⟩
theorem ok_LN_turnRowsFrom : OKc y_LN_turnRowsFrom b_LN_turnRowsFrom 4 none 1 := ⟨m4_131, m1_11, by decide, by decide, by decide +kernel⟩
theorem ok_LN_turn : OKc y_LN_turn b_LN_turn 6 none 2 := ⟨m4_135, m1_11, by decide, by decide, by decide +kernel⟩
theorem ok_LN_setPlaces : OKc y_LN_setPlaces b_LN_setPlaces 2 none 0 := ⟨m4_139, m1_11, by decide, by decide, by decide +kernel⟩
theorem ok_RS_init : OKc y_RS_init b_RS_init 3 none 2 := ⟨m1_111, m1_4, by decide, by decide, by decide +kernel⟩
theorem ok_RS_resolveText : OKc y_RS_resolveText b_RS_resolveText 5 none 1 := ⟨m3_59, m1_4, by decide, by decide, by decide +kernel⟩
theorem ok_RS_findParagraphs : OKc y_RS_findParagraphs b_RS_findParagraphs 3 none 0 := ⟨m3_63, m1_4, by decide, by decide, by decide +kernel⟩
theorem ok_RS_paragraphWith : OKc y_RS_paragraphWith b_RS_paragraphWith 3 (some .int) 1 := ⟨m4_104, m1_4, by decide, by decide, by decide +kernel⟩
theorem ok_RS_resolveSequences : OKc y_RS_resolveSequences b_RS_resolveSequences 4 (some .int) 1 := ⟨m3_146, m1_4, by decide, by decide, by decide +kernel⟩
theorem ok_RS_raiseLevels : OKc y_RS_raiseLevels b_RS_raiseLevels 4 none 2 := ⟨m4_29, m1_4, by decide, by decide, by decide +kernel⟩
theorem ok_RS_raiseOf : OKc y_RS_raiseOf b_RS_raiseOf 3 (some .int) 2 := ⟨m4_32, m1_4, by decide, by decide, by decide +kernel⟩
theorem ok_BL_init : OKc y_BL_init b_BL_init 1 none 0 := ⟨m1_24, m1_1, by decide, by decide, by decide +kernel⟩
theorem ok_BL_property : OKc y_BL_property b_BL_property 4 none 3 := ⟨m2_136, m1_1, by decide, by decide, by decide +kernel⟩
theorem ok_BL_bracket : OKc y_BL_bracket b_BL_bracket 3 none 2 := ⟨m2_236, m1_1, by decide, by decide, by decide +kernel⟩
theorem ok_BL_mirror : OKc y_BL_mirror b_BL_mirror 3 none 2 := ⟨m3_30, m1_1, by decide, by decide, by decide +kernel⟩
theorem ok_BL_add : OKc y_BL_add b_BL_add 9 (some .int) 5 := ⟨m3_37, m1_1, by decide, by decide, by decide +kernel⟩
theorem ok_BL_clear : OKc y_BL_clear b_BL_clear 2 (some .int) 0 := ⟨m2_123, m1_1, by decide, by decide, by decide +kernel⟩
theorem ok_BL_resolve : OKc y_BL_resolve b_BL_resolve 2 (some .int) 1 := ⟨m3_54, m1_1, by decide, by decide, by decide +kernel⟩
theorem ok_BL_paragraph : OKc y_BL_paragraph b_BL_paragraph 3 (some .int) 2 := ⟨m4_43, m1_1, by decide, by decide, by decide +kernel⟩
theorem ok_BL_level : OKc y_BL_level b_BL_level 2 (some .int) 1 := ⟨m4_72, m1_1, by decide, by decide, by decide +kernel⟩
theorem ok_BL_kind : OKc y_BL_kind b_BL_kind 2 (some .int) 1 := ⟨m4_84, m1_1, by decide, by decide, by decide +kernel⟩
theorem ok_BL_match : OKc y_BL_match b_BL_match 2 (some .int) 1 := ⟨m4_91, m1_1, by decide, by decide, by decide +kernel⟩
theorem ok_BL_line : OKc y_BL_line b_BL_line 4 (some .int) 2 := ⟨m4_98, m1_1, by decide, by decide, by decide +kernel⟩
theorem ok_BL_seen : OKc y_BL_seen b_BL_seen 4 (some .int) 2 := ⟨m4_146, m1_1, by decide, by decide, by decide +kernel⟩
theorem ok_BL_place : OKc y_BL_place b_BL_place 2 (some .int) 1 := ⟨m4_165, m1_1, by decide, by decide, by decide +kernel⟩
theorem ok_BL_tellPair : OKc y_BL_tellPair b_BL_tellPair 4 none 3 := ⟨m3_0, m1_1, by decide, by decide, by decide +kernel⟩
theorem ok_BL_forgetLevels : OKc y_BL_forgetLevels b_BL_forgetLevels 1 none 0 := ⟨m2_127, m1_1, by decide, by decide, by decide +kernel⟩
theorem ok_BL_needLevels : OKc y_BL_needLevels b_BL_needLevels 1 none 0 := ⟨m4_47, m1_1, by decide, by decide, by decide +kernel⟩
theorem ok_BL_needLine : OKc y_BL_needLine b_BL_needLine 1 none 0 := ⟨m4_150, m1_1, by decide, by decide, by decide +kernel⟩
theorem ok_BL_needPosition : OKc y_BL_needPosition b_BL_needPosition 2 none 1 := ⟨m4_76, m1_1, by decide, by decide, by decide +kernel⟩
theorem ok_BL_asSeen : OKc y_BL_asSeen b_BL_asSeen 4 (some .int) 1 := ⟨m4_156, m1_1, by decide, by decide, by decide +kernel⟩
theorem ok_BL_isCharacter : OKc y_BL_isCharacter b_BL_isCharacter 1 (some .boolean) 1 := ⟨m2_139, m1_1, by decide, by decide, by decide +kernel⟩
theorem ok_BL_isEmbedding : OKc y_BL_isEmbedding b_BL_isEmbedding 1 (some .boolean) 1 := ⟨m3_88, m1_1, by decide, by decide, by decide +kernel⟩
theorem ok_BL_isIsolate : OKc y_BL_isIsolate b_BL_isIsolate 1 (some .boolean) 1 := ⟨m3_70, m1_1, by decide, by decide, by decide +kernel⟩
theorem ok_BL_isOdd : OKc y_BL_isOdd b_BL_isOdd 1 (some .boolean) 1 := ⟨m4_35, m1_1, by decide, by decide, by decide +kernel⟩
theorem ok_BL_directionOf : OKc y_BL_directionOf b_BL_directionOf 1 (some .int) 1 := ⟨m3_99, m1_1, by decide, by decide, by decide +kernel⟩
theorem ok_MD_init : OKc y_MD_init b_MD_init 1 none 0 := ⟨m4_170, m1_12, by decide, by decide, by decide +kernel⟩
theorem ok_MD_thrown : OKc y_MD_thrown b_MD_thrown 1 (some .int) 0 := ⟨m5_47, m1_12, by decide, by decide, by decide +kernel⟩
theorem ok_MD_refused : OKc y_MD_refused b_MD_refused 2 (some .boolean) 1 := ⟨m5_59, m1_12, by decide, by decide, by decide +kernel⟩
theorem ok_MD_isCharacter : OKc y_MD_isCharacter b_MD_isCharacter 1 (some .boolean) 1 := ⟨m5_54, m1_12, by decide, by decide, by decide +kernel⟩
theorem ok_MD_property : OKc y_MD_property b_MD_property 5 none 3 := ⟨m5_51, m1_12, by decide, by decide, by decide +kernel⟩
theorem ok_MD_isBracket : OKc y_MD_isBracket b_MD_isBracket 2 (some .boolean) 1 := ⟨m5_67, m1_12, by decide, by decide, by decide +kernel⟩
theorem ok_MD_asked : OKc y_MD_asked b_MD_asked 4 (some .int) 1 := ⟨m5_71, m1_12, by decide, by decide, by decide +kernel⟩
theorem ok_MD_closes : OKc y_MD_closes b_MD_closes 4 (some .boolean) 1 := ⟨m5_75, m1_12, by decide, by decide, by decide +kernel⟩
theorem ok_MD_bracket : OKc y_MD_bracket b_MD_bracket 4 none 2 := ⟨m5_63, m1_12, by decide, by decide, by decide +kernel⟩
theorem ok_MD_mirrorOf : OKc y_MD_mirrorOf b_MD_mirrorOf 4 (some .int) 1 := ⟨m5_83, m1_12, by decide, by decide, by decide +kernel⟩
theorem ok_MD_mirror : OKc y_MD_mirror b_MD_mirror 4 none 2 := ⟨m5_79, m1_12, by decide, by decide, by decide +kernel⟩
theorem ok_MD_fifth : OKc y_MD_fifth b_MD_fifth 6 (some .int) 6 := ⟨m5_90, m1_12, by decide, by decide, by decide +kernel⟩
theorem ok_MD_add : OKc y_MD_add b_MD_add 9 (some .int) 5 := ⟨m5_87, m1_12, by decide, by decide, by decide +kernel⟩
theorem ok_MD_clear : OKc y_MD_clear b_MD_clear 2 (some .int) 0 := ⟨m5_94, m1_12, by decide, by decide, by decide +kernel⟩
theorem ok_MD_classOf : OKc y_MD_classOf b_MD_classOf 4 (some .int) 1 := ⟨m5_102, m1_12, by decide, by decide, by decide +kernel⟩
theorem ok_MD_isIsolate : OKc y_MD_isIsolate b_MD_isIsolate 1 (some .boolean) 1 := ⟨m5_109, m1_12, by decide, by decide, by decide +kernel⟩
theorem ok_MD_matchOf : OKc y_MD_matchOf b_MD_matchOf 5 (some .int) 2 := ⟨m5_113, m1_12, by decide, by decide, by decide +kernel⟩
theorem ok_MD_isRight : OKc y_MD_isRight b_MD_isRight 6 (some .boolean) 2 := ⟨m5_117, m1_12, by decide, by decide, by decide +kernel⟩
theorem ok_MD_push : OKc y_MD_push b_MD_push 4 none 3 := ⟨m5_125, m1_12, by decide, by decide, by decide +kernel⟩
theorem ok_MD_topLevel : OKc y_MD_topLevel b_MD_topLevel 1 (some .int) 0 := ⟨m5_133, m1_12, by decide, by decide, by decide +kernel⟩
theorem ok_MD_next : OKc y_MD_next b_MD_next 3 (some .int) 1 := ⟨m5_129, m1_12, by decide, by decide, by decide +kernel⟩
theorem ok_MD_settle : OKc y_MD_settle b_MD_settle 3 none 1 := ⟨m5_137, m1_12, by decide, by decide, by decide +kernel⟩
theorem ok_MD_explicit : OKc y_MD_explicit b_MD_explicit 12 none 3 := ⟨m5_121, m1_12, by decide, by decide, by decide +kernel⟩
theorem ok_MD_leftFrom : OKc y_MD_leftFrom b_MD_leftFrom 4 (some .int) 2 := ⟨m5_157, m1_12, by decide, by decide, by decide +kernel⟩
theorem ok_MD_leftBefore : OKc y_MD_leftBefore b_MD_leftBefore 4 (some .int) 2 := ⟨m5_145, m1_12, by decide, by decide, by decide +kernel⟩
theorem ok_MD_addRun : OKc y_MD_addRun b_MD_addRun 7 none 3 := ⟨m5_153, m1_12, by decide, by decide, by decide +kernel⟩
theorem ok_MD_directionOf : OKc y_MD_directionOf b_MD_directionOf 1 (some .int) 1 := ⟨m5_160, m1_12, by decide, by decide, by decide +kernel⟩
theorem ok_MD_makeSequence : OKc y_MD_makeSequence b_MD_makeSequence 10 none 4 := ⟨m5_149, m1_12, by decide, by decide, by decide +kernel⟩
theorem ok_MD_kindAt : OKc y_MD_kindAt b_MD_kindAt 2 (some .int) 1 := ⟨m5_172, m1_12, by decide, by decide, by decide +kernel⟩
theorem ok_MD_put : OKc y_MD_put b_MD_put 3 none 2 := ⟨m5_176, m1_12, by decide, by decide, by decide +kernel⟩
theorem ok_MD_strongBefore : OKc y_MD_strongBefore b_MD_strongBefore 3 (some .int) 1 := ⟨m5_180, m1_12, by decide, by decide, by decide +kernel⟩
theorem ok_MD_isBesideNumber : OKc y_MD_isBesideNumber b_MD_isBesideNumber 4 (some .boolean) 1 := ⟨m5_184, m1_12, by decide, by decide, by decide +kernel⟩
theorem ok_MD_weak : OKc y_MD_weak b_MD_weak 5 none 0 := ⟨m5_168, m1_12, by decide, by decide, by decide +kernel⟩
theorem ok_MD_side : OKc y_MD_side b_MD_side 1 (some .int) 1 := ⟨m5_199, m1_12, by decide, by decide, by decide +kernel⟩
theorem ok_MD_sideBefore : OKc y_MD_sideBefore b_MD_sideBefore 3 (some .int) 1 := ⟨m5_203, m1_12, by decide, by decide, by decide +kernel⟩
theorem ok_MD_findPairs : OKc y_MD_findPairs b_MD_findPairs 4 none 0 := ⟨m5_192, m1_12, by decide, by decide, by decide +kernel⟩
theorem ok_MD_closePair : OKc y_MD_closePair b_MD_closePair 4 none 2 := ⟨m5_196, m1_12, by decide, by decide, by decide +kernel⟩
theorem ok_MD_give : OKc y_MD_give b_MD_give 4 none 2 := ⟨m5_207, m1_12, by decide, by decide, by decide +kernel⟩
theorem ok_MD_pairs : OKc y_MD_pairs b_MD_pairs 7 none 0 := ⟨m5_188, m1_12, by decide, by decide, by decide +kernel⟩
theorem ok_MD_isNeutral : OKc y_MD_isNeutral b_MD_isNeutral 1 (some .boolean) 1 := ⟨m5_214, m1_12, by decide, by decide, by decide +kernel⟩
theorem ok_MD_neutrals : OKc y_MD_neutrals b_MD_neutrals 6 none 0 := ⟨m5_211, m1_12, by decide, by decide, by decide +kernel⟩
theorem ok_MD_resolveSequence : OKc y_MD_resolveSequence b_MD_resolveSequence 1 none 0 := ⟨m5_164, m1_12, by decide, by decide, by decide +kernel⟩
theorem ok_MD_begins : OKc y_MD_begins b_MD_begins 5 (some .boolean) 2 := ⟨m5_141, m1_12, by decide, by decide, by decide +kernel⟩
theorem ok_MD_resolveParagraph : OKc y_MD_resolveParagraph b_MD_resolveParagraph 7 none 3 := ⟨m5_106, m1_12, by decide, by decide, by decide +kernel⟩
theorem ok_MD_raise : OKc y_MD_raise b_MD_raise 7 none 2 := ⟨m5_218, m1_12, by decide, by decide, by decide +kernel⟩
theorem ok_MD_resolve : OKc y_MD_resolve b_MD_resolve 4 (some .int) 1 := ⟨m5_98, m1_12, by decide, by decide, by decide +kernel⟩
theorem ok_MD_paragraph : OKc y_MD_paragraph b_MD_paragraph 4 (some .int) 2 := ⟨m5_222, m1_12, by decide, by decide, by decide +kernel⟩
theorem ok_MD_isWrong : OKc y_MD_isWrong b_MD_isWrong 2 (some .boolean) 1 := ⟨m5_230, m1_12, by decide, by decide, by decide +kernel⟩
theorem ok_MD_level : OKc y_MD_level b_MD_level 2 (some .int) 1 := ⟨m5_226, m1_12, by decide, by decide, by decide +kernel⟩
theorem ok_MD_kind : OKc y_MD_kind b_MD_kind 2 (some .int) 1 := ⟨m5_234, m1_12, by decide, by decide, by decide +kernel⟩
theorem ok_MD_match : OKc y_MD_match b_MD_match 2 (some .int) 1 := ⟨m5_238, m1_12, by decide, by decide, by decide +kernel⟩
theorem ok_MD_partOf : OKc y_MD_partOf b_MD_partOf 4 (some .int) 1 := ⟨m6_6, m1_12, by decide, by decide, by decide +kernel⟩
theorem ok_MD_isBlankEnd : OKc y_MD_isBlankEnd b_MD_isBlankEnd 4 (some .boolean) 2 := ⟨m6_10, m1_12, by decide, by decide, by decide +kernel⟩
theorem ok_MD_turn : OKc y_MD_turn b_MD_turn 7 none 2 := ⟨m6_18, m1_12, by decide, by decide, by decide +kernel⟩
theorem ok_MD_turnAll : OKc y_MD_turnAll b_MD_turnAll 4 none 1 := ⟨m6_14, m1_12, by decide, by decide, by decide +kernel⟩
theorem ok_MD_line : OKc y_MD_line b_MD_line 7 (some .int) 2 := ⟨m6_2, m1_12, by decide, by decide, by decide +kernel⟩
theorem ok_MD_seen : OKc y_MD_seen b_MD_seen 6 (some .int) 2 := ⟨m6_22, m1_12, by decide, by decide, by decide +kernel⟩
theorem ok_MD_place : OKc y_MD_place b_MD_place 4 (some .int) 1 := ⟨m6_26, m1_12, by decide, by decide, by decide +kernel⟩
