/-! THE PROGRAM: its methods by number, and the words of the tables that its calls and fields want (written by wip/whole/gencode.py) -/
theorem q_wT {w : Cond} (i : Nat) (h : tables_1[i]? = some w) (hg : goodWord w = true) : w ∈ q_GW := List.mem_filter.mpr ⟨List.mem_append_right _ (List.mem_of_getElem? h), hg⟩
theorem q_wS {w : Cond} (i : Nat) (h : (k2_sels lw_privs)[i]? = some w) (hg : goodWord w = true) : w ∈ q_GW := List.mem_filter.mpr ⟨List.mem_append_left _ (List.mem_of_getElem? h), hg⟩
theorem q_wN {w : Cond} (i : Nat) (h : tables_1[i]? = some w) (hg : q_nest w = true) : w ∈ q_NW := List.mem_filter.mpr ⟨List.mem_append_right _ (List.mem_of_getElem? h), hg⟩
theorem q_uws {C : String} {T : u_T} {N : Nat} (ps : List Nat) (h : u_ws C T N = ps.filterMap (fun i => tables_1[i]?)) (hg : (u_ws C T N).all goodWord = true) : ∀ w ∈ u_ws C T N, w ∈ q_GW := by
  intro w hw
  have h1 := List.all_eq_true.mp hg w hw
  rw [h] at hw
  obtain ⟨i, -, hi⟩ := List.mem_filterMap.mp hw
  exact q_wT i hi h1
def QAll (Pr : Nat → QE → Prop) : List (Nat × QE) → Prop
  | [] => True
  | q :: t => Pr q.1 q.2 ∧ QAll Pr t
theorem q_an {Pr : Nat → QE → Prop} : QAll Pr [] := trivial
theorem q_ac {Pr : Nat → QE → Prop} {p : Nat} {e : QE} {t : List (Nat × QE)} (h : Pr p e) (ht : QAll Pr t) : QAll Pr ((p, e) :: t) := ⟨h, ht⟩
def QAllC (Pr : Nat → QE → Prop) : List (Nat × List (Nat × QE)) → Prop
  | [] => True
  | q :: t => QAll Pr q.2 ∧ QAllC Pr t
theorem q_cn {Pr : Nat → QE → Prop} : QAllC Pr [] := trivial
theorem q_cc {Pr : Nat → QE → Prop} {p : Nat} {e : List (Nat × QE)} {t : List (Nat × List (Nat × QE))} (h : QAll Pr e) (ht : QAllC Pr t) : QAllC Pr ((p, e) :: t) := ⟨h, ht⟩
def q_l1 {β : Type 1} : List (Nat × β) → Nat → Option β
  | [], _ => none
  | (p, e) :: t, pc => cond (Nat.beq p pc) (some e) (q_l1 t pc)
def q_l2 {β : Type 1} : List (Nat × List (Nat × β)) → Nat → Option β
  | [], _ => none
  | (lim, t) :: r, pc => cond (Nat.ble lim pc) (q_l2 r pc) (q_l1 t pc)
theorem q_l1_of {Pr : Nat → QE → Prop} : ∀ (t : List (Nat × QE)), QAll Pr t → ∀ pc E, q_l1 t pc = some E → Pr pc E := by
  intro t
  induction t with
  | nil => intro _ pc E h; cases h
  | cons q t ih =>
    obtain ⟨p, e⟩ := q
    intro hA pc E h
    simp only [q_l1] at h
    cases hb : Nat.beq p pc
    · rw [hb] at h
      exact ih hA.2 pc E h
    · rw [hb] at h
      cases h
      have := Nat.eq_of_beq_eq_true hb
      subst this
      exact hA.1
theorem q_l2_of {Pr : Nat → QE → Prop} : ∀ (t : List (Nat × List (Nat × QE))), QAllC Pr t → ∀ pc E, q_l2 t pc = some E → Pr pc E := by
  intro t
  induction t with
  | nil => intro _ pc E h; cases h
  | cons q t ih =>
    obtain ⟨p, e⟩ := q
    intro hA pc E h
    simp only [q_l2] at h
    cases hb : Nat.ble p pc
    · rw [hb] at h
      exact q_l1_of e hA.1 pc E h
    · rw [hb] at h
      exact ih hA.2 pc E h
theorem q_m1_ {w : Cond} (h : w ∈ tables_1_1) : w ∈ tables_1 := List.mem_append_left _ h
theorem q_wT1 {w : Cond} (i : Nat) (h : tables_1_1[i]? = some w) (hg : goodWord w = true) : w ∈ q_GW := List.mem_filter.mpr ⟨List.mem_append_right _ (q_m1_ (List.mem_of_getElem? h)), hg⟩
theorem q_wN1 {w : Cond} (i : Nat) (h : tables_1_1[i]? = some w) (hg : q_nest w = true) : w ∈ q_NW := List.mem_filter.mpr ⟨List.mem_append_right _ (q_m1_ (List.mem_of_getElem? h)), hg⟩
theorem q_m2_ {w : Cond} (h : w ∈ tables_1_2) : w ∈ tables_1 := List.mem_append_right _ (List.mem_append_left _ h)
theorem q_wT2 {w : Cond} (i : Nat) (h : tables_1_2[i]? = some w) (hg : goodWord w = true) : w ∈ q_GW := List.mem_filter.mpr ⟨List.mem_append_right _ (q_m2_ (List.mem_of_getElem? h)), hg⟩
theorem q_wN2 {w : Cond} (i : Nat) (h : tables_1_2[i]? = some w) (hg : q_nest w = true) : w ∈ q_NW := List.mem_filter.mpr ⟨List.mem_append_right _ (q_m2_ (List.mem_of_getElem? h)), hg⟩
theorem q_m3_ {w : Cond} (h : w ∈ tables_1_3) : w ∈ tables_1 := List.mem_append_right _ (List.mem_append_right _ (List.mem_append_left _ h))
theorem q_wT3 {w : Cond} (i : Nat) (h : tables_1_3[i]? = some w) (hg : goodWord w = true) : w ∈ q_GW := List.mem_filter.mpr ⟨List.mem_append_right _ (q_m3_ (List.mem_of_getElem? h)), hg⟩
theorem q_wN3 {w : Cond} (i : Nat) (h : tables_1_3[i]? = some w) (hg : q_nest w = true) : w ∈ q_NW := List.mem_filter.mpr ⟨List.mem_append_right _ (q_m3_ (List.mem_of_getElem? h)), hg⟩
theorem q_m4_ {w : Cond} (h : w ∈ tables_1_4) : w ∈ tables_1 := List.mem_append_right _ (List.mem_append_right _ (List.mem_append_right _ (List.mem_append_left _ h)))
theorem q_wT4 {w : Cond} (i : Nat) (h : tables_1_4[i]? = some w) (hg : goodWord w = true) : w ∈ q_GW := List.mem_filter.mpr ⟨List.mem_append_right _ (q_m4_ (List.mem_of_getElem? h)), hg⟩
theorem q_wN4 {w : Cond} (i : Nat) (h : tables_1_4[i]? = some w) (hg : q_nest w = true) : w ∈ q_NW := List.mem_filter.mpr ⟨List.mem_append_right _ (q_m4_ (List.mem_of_getElem? h)), hg⟩
theorem q_m5_ {w : Cond} (h : w ∈ tables_1_5) : w ∈ tables_1 := List.mem_append_right _ (List.mem_append_right _ (List.mem_append_right _ (List.mem_append_right _ (List.mem_append_left _ h))))
theorem q_wT5 {w : Cond} (i : Nat) (h : tables_1_5[i]? = some w) (hg : goodWord w = true) : w ∈ q_GW := List.mem_filter.mpr ⟨List.mem_append_right _ (q_m5_ (List.mem_of_getElem? h)), hg⟩
theorem q_wN5 {w : Cond} (i : Nat) (h : tables_1_5[i]? = some w) (hg : q_nest w = true) : w ∈ q_NW := List.mem_filter.mpr ⟨List.mem_append_right _ (q_m5_ (List.mem_of_getElem? h)), hg⟩
theorem q_m6_ {w : Cond} (h : w ∈ tables_1_6) : w ∈ tables_1 := List.mem_append_right _ (List.mem_append_right _ (List.mem_append_right _ (List.mem_append_right _ (List.mem_append_right _ (h)))))
theorem q_wT6 {w : Cond} (i : Nat) (h : tables_1_6[i]? = some w) (hg : goodWord w = true) : w ∈ q_GW := List.mem_filter.mpr ⟨List.mem_append_right _ (q_m6_ (List.mem_of_getElem? h)), hg⟩
theorem q_wN6 {w : Cond} (i : Nat) (h : tables_1_6[i]? = some w) (hg : q_nest w = true) : w ∈ q_NW := List.mem_filter.mpr ⟨List.mem_append_right _ (q_m6_ (List.mem_of_getElem? h)), hg⟩
def q_P0 : List (MethodName × ByteArray × Nat × Option FieldType) := [(yX0_init, cX0_init, 1, none), (yX0_add, cX0_add, 4, none), (yX0_dropOldest, cX0_dropOldest, 1, none), (yX0_isKept, cX0_isKept, 1, (some .boolean)), (yX0_slotAt, cX0_slotAt, 2, (some .int)), (yX0_wasAt, cX0_wasAt, 2, (some .int)), (yX0_becameAt, cX0_becameAt, 2, (some .int)), (yX1_init, cX1_init, 1, none), (yX1_forgetTold, cX1_forgetTold, 2, none), (yX1_toldTo, cX1_toldTo, 2, (some .int)), (yX1_hearTold, cX1_hearTold, 3, none), (yX1_ringOn, cX1_ringOn, 2, none), (yX1_beginAnew, cX1_beginAnew, 1, none), (yX1_copyOf, cX1_copyOf, 2, none), (yX2_init, cX2_init, 1, none), (yX2_copyOf, cX2_copyOf, 2, none)]
def q_P1 : List (MethodName × ByteArray × Nat × Option FieldType) := [(yX2_isFarm, cX2_isFarm, 2, (some .boolean)), (yX2_slotOf, cX2_slotOf, 3, (some .int)), (yX2_value, cX2_value, 2, (some .int)), (yX2_write, cX2_write, 3, none), (yX2_common, cX2_common, 2, (some .int)), (yX2_add, cX2_add, 5, (some .int)), (yX2_doing, cX2_doing, 6, (some .int)), (yX2_barks, cX2_barks, 2, (some .boolean)), (yX3_init, cX3_init, 1, none), (yX3_isTold, cX3_isTold, 1, (some .boolean)), (yX3_become, cX3_become, 2, none), (yX3_gives, cX3_gives, 6, (some .int)), (yX3_workOut, cX3_workOut, 5, none), (yX3_howMany, cX3_howMany, 2, (some .int)), (yX3_joined, cX3_joined, 3, (some .int)), (yX3_push, cX3_push, 2, none)]
def q_P2 : List (MethodName × ByteArray × Nat × Option FieldType) := [(yX3_pop, cX3_pop, 1, (some .int)), (yX4_init, cX4_init, 1, none), (yX4_add, cX4_add, 2, (some .boolean)), (yX4_read, cX4_read, 2, (some .int)), (yX4_sign, cX4_sign, 1, (some .int)), (yX4_emit, cX4_emit, 2, none), (yX4_readLine, cX4_readLine, 1, none), (yX4_readLevel, cX4_readLevel, 6, none), (yX4_belongs, cX4_belongs, 2, (some .boolean)), (yX4_readOperand, cX4_readOperand, 3, none), (yX4_readClosing, cX4_readClosing, 1, none), (yX4_readNumber, cX4_readNumber, 3, none), (yX4_isDigit, cX4_isDigit, 1, (some .boolean)), (yX4_isName, cX4_isName, 1, (some .boolean)), (yX5_init, cX5_init, 1, none), (yX5_holdsNothing, cX5_holdsNothing, 1, (some .boolean))]
def q_P3 : List (MethodName × ByteArray × Nat × Option FieldType) := [(yX5_holdsRow, cX5_holdsRow, 1, (some .boolean)), (yX5_holdsBytes, cX5_holdsBytes, 1, (some .boolean)), (yX5_refusal, cX5_refusal, 1, (some .int)), (yX5_clear, cX5_clear, 1, none), (yX5_laySingle, cX5_laySingle, 2, none), (yX5_layRow, cX5_layRow, 4, none), (yX5_hasPlace, cX5_hasPlace, 2, (some .boolean)), (yX5_hasPlaces, cX5_hasPlaces, 3, (some .boolean)), (yX5_cell, cX5_cell, 2, (some .long)), (yX5_write, cX5_write, 4, none), (yX5_lowest, cX5_lowest, 3, (some .long)), (yX6_init, cX6_init, 1, none), (yX6_add, cX6_add, 2, (some .int)), (yX6_isThere, cX6_isThere, 2, (some .boolean)), (yX6_kindOf, cX6_kindOf, 2, (some .int)), (yX6_ranAt, cX6_ranAt, 2, (some .int))]
def q_P4 : List (MethodName × ByteArray × Nat × Option FieldType) := [(yX6_above, cX6_above, 1, (some .int)), (yX6_isUnder, cX6_isUnder, 4, (some .boolean)), (yX6_perform, cX6_perform, 4, (some .int)), (yX6_own, cX6_own, 4, (some .int)), (yX6_ownBody, cX6_ownBody, 3, (some .int)), (yX6_holder, cX6_holder, 4, (some .int)), (yX6_begin, cX6_begin, 2, none), (yX6_run, cX6_run, 9, (some .int)), (yX7_init, cX7_init, 1, none), (yX7_begin, cX7_begin, 2, none), (yX7_add, cX7_add, 2, none), (yX7_at, cX7_at, 2, (some .int)), (yX7_copyOf, cX7_copyOf, 2, none), (yX7_silentFrom, cX7_silentFrom, 2, (some .int)), (yX7_anewFrom, cX7_anewFrom, 3, (some .int)), (yX7_howOften, cX7_howOften, 4, (some .int))]
def q_P5 : List (MethodName × ByteArray × Nat × Option FieldType) := [(yX7_longest, cX7_longest, 5, (some .int)), (yX8_init, cX8_init, 2, none), (yX8_farm, cX8_farm, 3, (some .int)), (yX8_farms, cX8_farms, 7, (some .int)), (yX8_mend, cX8_mend, 6, (some .int)), (yX8_of, cX8_of, 4, (some .int)), (yX8_feed, cX8_feed, 2, (some .int)), (yX8_law, cX8_law, 2, (some .int)), (yX8_rung, cX8_rung, 2, (some .int)), (yX8_does, cX8_does, 3, (some .int)), (yX8_signs, cX8_signs, 3, (some .int)), (yX8_round, cX8_round, 6, (some .int)), (yX8_ends, cX8_ends, 1, (some .int)), (yX8_often, cX8_often, 4, (some .int)), (yX8_late, cX8_late, 8, (some .int)), (yX8_spare, cX8_spare, 7, (some .int))]
def q_P6 : List (MethodName × ByteArray × Nat × Option FieldType) := [(yX8_send, cX8_send, 6, (some .int)), (yX8_changesIt, cX8_changesIt, 6, (some .int)), (yX8_byWhom, cX8_byWhom, 4, (some .int)), (yX8_church, cX8_church, 4, (some .int)), (yX8_alike, cX8_alike, 5, (some .int)), (yX8_judge, cX8_judge, 4, (some .int)), (yX8_kinds, cX8_kinds, 6, (some .int)), (yX8_howFar, cX8_howFar, 5, (some .int)), (yX8_which, cX8_which, 5, (some .int)), (yX8_asTold, cX8_asTold, 3, (some .int)), (yX8_deaf, cX8_deaf, 5, (some .int)), (yX8_drawn, cX8_drawn, 10, (some .int)), (yX8_pass, cX8_pass, 2, (some .int)), (yX8_tell, cX8_tell, 4, (some .int)), (yX8_day, cX8_day, 2, (some .int)), (yX8_led, cX8_led, 2, (some .int))]
def q_P7 : List (MethodName × ByteArray × Nat × Option FieldType) := [(yX8_image, cX8_image, 1, (some .int)), (yX8_back, cX8_back, 1, (some .int)), (yX8_undo, cX8_undo, 1, (some .int)), (yX8_redo, cX8_redo, 1, (some .int)), (yX8_body, cX8_body, 2, (some .int)), (yX8_act, cX8_act, 4, (some .int)), (yX8_trace, cX8_trace, 2, (some .int)), (yX8_keep, cX8_keep, 4, (some .int)), (yX8_row, cX8_row, 5, (some .int)), (yX8_put, cX8_put, 6, (some .int)), (yX8_element, cX8_element, 4, (some .long)), (yX8_shift, cX8_shift, 8, (some .int)), (yX8_taken, cX8_taken, 5, (some .int)), (yX8_count, cX8_count, 2, (some .int)), (yX8_within, cX8_within, 2, (some .boolean)), (yX8_mostOf, cX8_mostOf, 1, (some .int))]
def q_P8 : List (MethodName × ByteArray × Nat × Option FieldType) := [(yX8_shelfAt, cX8_shelfAt, 2, (some (.object "RungByHeart$Shelf"))), (yX8_comesFrom, cX8_comesFrom, 8, (some .boolean)), (yX8_clearSigns, cX8_clearSigns, 2, none), (yX8_addSign, cX8_addSign, 3, none), (yX8_countSigns, cX8_countSigns, 5, none), (yX8_nextStroke, cX8_nextStroke, 5, (some .int)), (yX8_ringDay, cX8_ringDay, 5, none), (yX8_ringNext, cX8_ringNext, 3, none), (yX8_ringDrawn, cX8_ringDrawn, 5, (some .int)), (yX8_draw, cX8_draw, 1, (some .int)), (yX8_rains, cX8_rains, 2, (some .boolean)), (yX8_think, cX8_think, 4, none), (yX8_thinkDeaf, cX8_thinkDeaf, 3, none), (yX8_endsBy, cX8_endsBy, 5, (some .boolean)), (yX8_isChurch, cX8_isChurch, 2, (some .boolean)), (yX8_ringBoth, cX8_ringBoth, 6, none)]
def q_P9 : List (MethodName × ByteArray × Nat × Option FieldType) := [(yX8_alikeFrom, cX8_alikeFrom, 2, (some .int)), (yX8_firstUnseen, cX8_firstUnseen, 7, (some .int)), (yX8_firstUntold, cX8_firstUntold, 4, (some .int)), (yX8_rungNow, cX8_rungNow, 1, (some .int)), (yX8_doingNow, cX8_doingNow, 3, (some .int)), (yX8_beginDeed, cX8_beginDeed, 1, none), (yX9_init, cX9_init, 1, none), (yX9_isIn, cX9_isIn, 4, (some .boolean)), (yX9_isFarm, cX9_isFarm, 2, (some .boolean)), (yX9_isMinute, cX9_isMinute, 2, (some .boolean)), (yX9_has, cX9_has, 3, (some .boolean)), (yX9_farm, cX9_farm, 3, (some .int)), (yX9_adds, cX9_adds, 4, (some .int)), (yX9_farms, cX9_farms, 9, (some .int)), (yX9_most, cX9_most, 2, (some .int)), (yX9_isNumber, cX9_isNumber, 3, (some .boolean))]
def q_P10 : List (MethodName × ByteArray × Nat × Option FieldType) := [(yX9_read, cX9_read, 3, (some .int)), (yX9_write, cX9_write, 4, none), (yX9_drops, cX9_drops, 2, none), (yX9_mend, cX9_mend, 5, (some .int)), (yX9_undo, cX9_undo, 1, (some .int)), (yX9_redo, cX9_redo, 1, (some .int)), (yX9_of, cX9_of, 3, (some .int)), (yX9_feed, cX9_feed, 2, (some .int)), (yX9_next, cX9_next, 1, (some .int)), (yX9_isNext, cX9_isNext, 2, (some .boolean)), (yX9_isDigit, cX9_isDigit, 2, (some .boolean)), (yX9_isName, cX9_isName, 2, (some .boolean)), (yX9_readsO, cX9_readsO, 3, none), (yX9_readsP, cX9_readsP, 1, none), (yX9_readsS, cX9_readsS, 1, none), (yX9_readsB, cX9_readsB, 1, none)]
def q_P11 : List (MethodName × ByteArray × Nat × Option FieldType) := [(yX9_readsA, cX9_readsA, 1, none), (yX9_readsE, cX9_readsE, 1, none), (yX9_readsLine, cX9_readsLine, 1, none), (yX9_law, cX9_law, 4, (some .int)), (yX9_seen, cX9_seen, 1, (some .int)), (yX9_isSeen, cX9_isSeen, 2, (some .boolean)), (yX9_one, cX9_one, 2, (some .int)), (yX9_takesO, cX9_takesO, 3, (some .int)), (yX9_takesP, cX9_takesP, 3, (some .int)), (yX9_takesS, cX9_takesS, 2, (some .int)), (yX9_takesB, cX9_takesB, 2, (some .int)), (yX9_takesA, cX9_takesA, 3, (some .int)), (yX9_takesE, cX9_takesE, 3, (some .int)), (yX9_given, cX9_given, 3, (some .int)), (yX9_plain, cX9_plain, 2, none), (yX9_rungAt, cX9_rungAt, 3, (some .int))]
def q_P12 : List (MethodName × ByteArray × Nat × Option FieldType) := [(yX9_signOf, cX9_signOf, 5, (some .int)), (yX9_sign, cX9_sign, 3, (some .int)), (yX9_counts, cX9_counts, 3, none), (yX9_rungNext, cX9_rungNext, 5, (some .int)), (yX9_goes, cX9_goes, 3, none), (yX9_goesPlain, cX9_goesPlain, 2, none), (yX9_rung, cX9_rung, 2, (some .int)), (yX9_does, cX9_does, 3, (some .int)), (yX9_signs, cX9_signs, 3, (some .int)), (yX9_isAgain, cX9_isAgain, 4, (some .boolean)), (yX9_round, cX9_round, 4, (some .int)), (yX9_end, cX9_end, 2, (some .int)), (yX9_endOr, cX9_endOr, 2, (some .int)), (yX9_ends, cX9_ends, 1, (some .int)), (yX9_often, cX9_often, 8, (some .int)), (yX9_barsOf, cX9_barsOf, 2, (some .int))]
def q_P13 : List (MethodName × ByteArray × Nat × Option FieldType) := [(yX9_late, cX9_late, 8, (some .int)), (yX9_endWithout, cX9_endWithout, 2, (some .int)), (yX9_spare, cX9_spare, 6, (some .int)), (yX9_ones, cX9_ones, 4, (some .int)), (yX9_send, cX9_send, 5, (some .int)), (yX9_keepsDay, cX9_keepsDay, 2, none), (yX9_changesIt, cX9_changesIt, 4, (some .int)), (yX9_byWhom, cX9_byWhom, 5, (some .int)), (yX9_goesBoth, cX9_goesBoth, 4, none), (yX9_isChurch, cX9_isChurch, 2, (some .boolean)), (yX9_church, cX9_church, 4, (some .int)), (yX9_alike, cX9_alike, 5, (some .int)), (yX9_unlike, cX9_unlike, 5, (some .int)), (yX9_barsFor, cX9_barsFor, 3, (some .int)), (yX9_judge, cX9_judge, 4, (some .int)), (yX9_kinds, cX9_kinds, 7, (some .int))]
def q_P14 : List (MethodName × ByteArray × Nat × Option FieldType) := [(yX9_howFar, cX9_howFar, 7, (some .int)), (yX9_which, cX9_which, 4, (some .int)), (yX9_unlikeRung, cX9_unlikeRung, 4, (some .int)), (yX9_asTold, cX9_asTold, 2, (some .int)), (yX9_deaf, cX9_deaf, 3, (some .int)), (yX9_drawn, cX9_drawn, 11, (some .int)), (yX9_rungNow, cX9_rungNow, 1, (some .int)), (yX9_pass, cX9_pass, 2, (some .int)), (yX9_tell, cX9_tell, 4, (some .int)), (yX9_day, cX9_day, 3, (some .int)), (yX9_led, cX9_led, 2, (some .int)), (yX9_image, cX9_image, 2, (some .int)), (yX9_back, cX9_back, 2, (some .int)), (yX9_body, cX9_body, 2, (some .int)), (yX9_runs, cX9_runs, 2, none), (yX9_above, cX9_above, 2, (some .int))]
def q_P15 : List (MethodName × ByteArray × Nat × Option FieldType) := [(yX9_rings, cX9_rings, 4, (some .int)), (yX9_hears, cX9_hears, 5, (some .int)), (yX9_doing, cX9_doing, 5, (some .int)), (yX9_tells, cX9_tells, 5, (some .int)), (yX9_act, cX9_act, 5, (some .int)), (yX9_trace, cX9_trace, 2, (some .int)), (yX9_isShelf, cX9_isShelf, 2, (some .boolean)), (yX9_intAt, cX9_intAt, 3, (some .int)), (yX9_keep, cX9_keep, 3, (some .int)), (yX9_row, cX9_row, 5, (some .int)), (yX9_barsOfRow, cX9_barsOfRow, 2, (some .int)), (yX9_isElement, cX9_isElement, 3, (some .boolean)), (yX9_put, cX9_put, 6, (some .int)), (yX9_element, cX9_element, 3, (some .long)), (yX9_shift, cX9_shift, 7, (some .int)), (yX9_taken, cX9_taken, 5, (some .int))]
def q_P16 : List (MethodName × ByteArray × Nat × Option FieldType) := [(yX9_count, cX9_count, 2, (some .int)), (yJ6_bitCount_0f7a4, cJ6_bitCount_0f7a4, 1, (some .int)), (yJ9_max_7cf53, cJ9_max_7cf53, 2, (some .int)), (yJ9_min_7cf53, cJ9_min_7cf53, 2, (some .int)), (yL_law, cL_law, 4, (some .boolean))]
def q_Pl : List (List (MethodName × ByteArray × Nat × Option FieldType)) := [q_P0, q_P1, q_P2, q_P3, q_P4, q_P5, q_P6, q_P7, q_P8, q_P9, q_P10, q_P11, q_P12, q_P13, q_P14, q_P15, q_P16]
def q_nP : MethodName × ByteArray × Nat × Option FieldType := (⟨"", "", ""⟩, ⟨#[]⟩, 0, none)
def q_P : QP := fun k => (q_Pl.getD (k / 16) []).getD (k % 16) q_nP
theorem qk_X0 : QCls 0 RX0 TX0 5 tyX0 := ⟨rfl, by decide, tyX0_ok, nmX0, q_uws [164, 166, 168, 170, 172] (by decide +kernel) (by decide +kernel)⟩
theorem qd_X0 : ∀ k, k < 5 → defaultValue (tyX0 k) = if q_fi 0 k = true then .int 0 else .null := by decide +kernel
theorem qk_X1 : QCls 1 RX1 TX1 6 tyX1 := ⟨rfl, by decide, tyX1_ok, nmX1, q_uws [138, 140, 142, 144, 146, 148] (by decide +kernel) (by decide +kernel)⟩
theorem qd_X1 : ∀ k, k < 6 → defaultValue (tyX1 k) = if q_fi 1 k = true then .int 0 else .null := by decide +kernel
theorem qk_X2 : QCls 2 RX2 TX2 2 tyX2 := ⟨rfl, by decide, tyX2_ok, nmX2, q_uws [43, 45] (by decide +kernel) (by decide +kernel)⟩
theorem qd_X2 : ∀ k, k < 2 → defaultValue (tyX2 k) = if q_fi 2 k = true then .int 0 else .null := by decide +kernel
theorem qk_X3 : QCls 3 RX3 TX3 4 tyX3 := ⟨rfl, by decide, tyX3_ok, nmX3, q_uws [106, 108, 110, 112] (by decide +kernel) (by decide +kernel)⟩
theorem qd_X3 : ∀ k, k < 4 → defaultValue (tyX3 k) = if q_fi 3 k = true then .int 0 else .null := by decide +kernel
theorem qk_X4 : QCls 4 RX4 TX4 6 tyX4 := ⟨rfl, by decide, tyX4_ok, nmX4, q_uws [83, 85, 87, 89, 91, 93] (by decide +kernel) (by decide +kernel)⟩
theorem qd_X4 : ∀ k, k < 6 → defaultValue (tyX4 k) = if q_fi 4 k = true then .int 0 else .null := by decide +kernel
theorem qk_X5 : QCls 5 RX5 TX5 4 tyX5 := ⟨rfl, by decide, tyX5_ok, nmX5, q_uws [214, 216, 218, 220] (by decide +kernel) (by decide +kernel)⟩
theorem qd_X5 : ∀ k, k < 4 → defaultValue (tyX5 k) = if q_fi 5 k = true then .int 0 else .null := by decide +kernel
theorem qk_X6 : QCls 6 RX6 TX6 5 tyX6 := ⟨rfl, by decide, tyX6_ok, nmX6, q_uws [188, 190, 192, 194, 196] (by decide +kernel) (by decide +kernel)⟩
theorem qd_X6 : ∀ k, k < 5 → defaultValue (tyX6 k) = if q_fi 6 k = true then .int 0 else .null := by decide +kernel
theorem qk_X7 : QCls 7 RX7 TX7 3 tyX7 := ⟨rfl, by decide, tyX7_ok, nmX7, q_uws [61, 63, 65] (by decide +kernel) (by decide +kernel)⟩
theorem qd_X7 : ∀ k, k < 3 → defaultValue (tyX7 k) = if q_fi 7 k = true then .int 0 else .null := by decide +kernel
theorem qk_X8 : QCls 8 RX8 TX8 13 tyX8 := ⟨rfl, by decide, tyX8_ok, nmX8, q_uws [237, 239, 241, 243, 245, 247, 249, 251, 253, 255, 257, 259, 261] (by decide +kernel) (by decide +kernel)⟩
theorem qd_X8 : ∀ k, k < 13 → defaultValue (tyX8 k) = if q_fi 8 k = true then .int 0 else .null := by decide +kernel
theorem qk_X9 : QCls 9 RX9 TX9 53 tyX9 := ⟨rfl, by decide, tyX9_ok, nmX9, q_uws [902, 904, 906, 908, 910, 912, 914, 916, 918, 920, 922, 924, 926, 928, 930, 932, 934, 936, 938, 940, 942, 944, 946, 948, 950, 952, 954, 956, 958, 960, 962, 964, 966, 968, 970, 972, 974, 976, 978, 980, 982, 984, 986, 988, 990, 992, 994, 996, 998, 1000, 1002, 1004, 1006] (by decide +kernel) (by decide +kernel)⟩
theorem qd_X9 : ∀ k, k < 53 → defaultValue (tyX9 k) = if q_fi 9 k = true then .int 0 else .null := by decide +kernel
theorem qo_RX0_1 : Cond.methodLink RX0 1 Lib.objectInit ∈ q_GW := q_wT1 156 (by decide +kernel) (by decide +kernel)
theorem ql_RX0_9_g : Cond.fieldLink RX0 9 (TX0 0).1 (TX0 0).2.1 (TX0 0).2.2.1 ∈ q_GW := q_wT1 157 (by decide +kernel) (by decide +kernel)
theorem ql_RX0_9 : q_lnk RX0 9 TX0 0 := Or.inl ql_RX0_9_g
theorem qf_0_0 : q_fi 0 0 = false := by decide +kernel
theorem ql_RX0_13_g : Cond.fieldLink RX0 13 (TX0 1).1 (TX0 1).2.1 (TX0 1).2.2.1 ∈ q_GW := q_wT1 158 (by decide +kernel) (by decide +kernel)
theorem ql_RX0_13 : q_lnk RX0 13 TX0 1 := Or.inl ql_RX0_13_g
theorem qf_0_1 : q_fi 0 1 = false := by decide +kernel
theorem ql_RX0_16_g : Cond.fieldLink RX0 16 (TX0 2).1 (TX0 2).2.1 (TX0 2).2.2.1 ∈ q_GW := q_wT1 159 (by decide +kernel) (by decide +kernel)
theorem ql_RX0_16 : q_lnk RX0 16 TX0 2 := Or.inl ql_RX0_16_g
theorem qf_0_2 : q_fi 0 2 = false := by decide +kernel
theorem ql_RX0_19_g : Cond.fieldLink RX0 19 (TX0 3).1 (TX0 3).2.1 (TX0 3).2.2.1 ∈ q_GW := q_wT1 160 (by decide +kernel) (by decide +kernel)
theorem ql_RX0_19 : q_lnk RX0 19 TX0 3 := Or.inl ql_RX0_19_g
theorem qf_0_3 : q_fi 0 3 = true := by decide +kernel
theorem qm_RX0_23 : QVir q_P RX0 23 2 := ⟨q_wT2 83 (by decide +kernel) (by decide +kernel), q_wT2 85 (by decide +kernel) (by decide +kernel), q_wS 3 (by decide +kernel) (by decide +kernel)⟩
theorem qc_X0_dropOldest : QCal q_P 2 0 := ⟨q_wT2 86 (by decide +kernel) (by decide +kernel), q_wT1 7 (by decide +kernel) (by decide +kernel), ⟨by decide +kernel, by decide +kernel⟩, by decide +kernel, by decide +kernel⟩
theorem ql_RX0_26_g : Cond.fieldLink RX0 26 (TX0 4).1 (TX0 4).2.1 (TX0 4).2.2.1 ∈ q_GW := q_wT1 162 (by decide +kernel) (by decide +kernel)
theorem ql_RX0_26 : q_lnk RX0 26 TX0 4 := Or.inl ql_RX0_26_g
theorem qf_0_4 : q_fi 0 4 = true := by decide +kernel
theorem qy_RX0_29 : q_cpw RX0 29 := ⟨q_wT2 87 (by decide +kernel) (by decide +kernel), q_wT2 89 (by decide +kernel) (by decide +kernel), q_wT2 88 (by decide +kernel) (by decide +kernel), q_wT1 11 (by decide +kernel) (by decide +kernel)⟩
theorem qm_RX0_35 : QSta q_P RX0 35 3 := ⟨q_wT3 225 (by decide +kernel) (by decide +kernel), q_wT3 226 (by decide +kernel) (by decide +kernel)⟩
theorem qc_X0_isKept : QCal q_P 3 1 := ⟨q_wT3 227 (by decide +kernel) (by decide +kernel), q_wT1 7 (by decide +kernel) (by decide +kernel), ⟨by decide +kernel, by decide +kernel⟩, by decide +kernel, by decide +kernel⟩
theorem qo_RX1_3 : Cond.methodLink RX1 3 Lib.objectInit ∈ q_GW := q_wT1 120 (by decide +kernel) (by decide +kernel)
theorem qm_RX1_11 : QIni q_P RX1 11 72 := ⟨Or.inr ⟨"RungByHeart", q_wN1 122 (by decide +kernel) (by decide +kernel)⟩, q_wT1 52 (by decide +kernel) (by decide +kernel), by decide +kernel, by decide +kernel⟩
theorem qc_X7_init : QCal q_P 72 0 := ⟨q_wT1 53 (by decide +kernel) (by decide +kernel), q_wT1 3 (by decide +kernel) (by decide +kernel), ⟨by decide +kernel, by decide +kernel⟩, by decide +kernel, by decide +kernel⟩
theorem ql_RX1_12_g : Cond.fieldLink RX1 12 (TX1 0).1 (TX1 0).2.1 (TX1 0).2.2.1 ∈ q_GW := q_wT1 127 (by decide +kernel) (by decide +kernel)
theorem ql_RX1_12 : q_lnk RX1 12 TX1 0 := Or.inl ql_RX1_12_g
theorem qf_1_0 : q_fi 1 0 = false := by decide +kernel
theorem ql_RX1_18_g : Cond.fieldLink RX1 18 (TX1 1).1 (TX1 1).2.1 (TX1 1).2.2.1 ∈ q_GW := q_wT1 129 (by decide +kernel) (by decide +kernel)
theorem ql_RX1_18 : q_lnk RX1 18 TX1 1 := Or.inl ql_RX1_18_g
theorem qf_1_1 : q_fi 1 1 = false := by decide +kernel
theorem qm_RX1_22 : QVir q_P RX1 22 8 := ⟨q_wT1 123 (by decide +kernel) (by decide +kernel), q_wT1 125 (by decide +kernel) (by decide +kernel), q_wS 0 (by decide +kernel) (by decide +kernel)⟩
theorem qc_X1_forgetTold : QCal q_P 8 0 := ⟨q_wT1 126 (by decide +kernel) (by decide +kernel), q_wT1 6 (by decide +kernel) (by decide +kernel), ⟨by decide +kernel, by decide +kernel⟩, by decide +kernel, by decide +kernel⟩
theorem ql_RX1_25_g : Cond.fieldLink RX1 25 (TX1 4).1 (TX1 4).2.1 (TX1 4).2.2.1 ∈ q_GW := q_wT1 134 (by decide +kernel) (by decide +kernel)
theorem ql_RX1_25 : q_lnk RX1 25 TX1 4 := Or.inl ql_RX1_25_g
theorem qf_1_4 : q_fi 1 4 = true := by decide +kernel
theorem qm_RX1_29 : QVir q_P RX1 29 74 := ⟨q_wT3 177 (by decide +kernel) (by decide +kernel), q_wT2 239 (by decide +kernel) (by decide +kernel), q_wT3 0 (by decide +kernel) (by decide +kernel)⟩
theorem qc_X7_add : QCal q_P 74 1 := ⟨q_wT3 1 (by decide +kernel) (by decide +kernel), q_wT1 3 (by decide +kernel) (by decide +kernel), ⟨by decide +kernel, by decide +kernel⟩, by decide +kernel, by decide +kernel⟩
theorem ql_RX1_33_g : Cond.fieldLink RX1 33 (TX1 2).1 (TX1 2).2.1 (TX1 2).2.2.1 ∈ q_GW := q_wT1 130 (by decide +kernel) (by decide +kernel)
theorem ql_RX1_33 : q_lnk RX1 33 TX1 2 := Or.inl ql_RX1_33_g
theorem qf_1_2 : q_fi 1 2 = true := by decide +kernel
theorem ql_RX1_36_g : Cond.fieldLink RX1 36 (TX1 3).1 (TX1 3).2.1 (TX1 3).2.2.1 ∈ q_GW := q_wT1 132 (by decide +kernel) (by decide +kernel)
theorem ql_RX1_36 : q_lnk RX1 36 TX1 3 := Or.inl ql_RX1_36_g
theorem qf_1_3 : q_fi 1 3 = true := by decide +kernel
theorem qm_RX1_39 : QVir q_P RX1 39 73 := ⟨q_wT3 194 (by decide +kernel) (by decide +kernel), q_wT2 174 (by decide +kernel) (by decide +kernel), q_wT2 175 (by decide +kernel) (by decide +kernel)⟩
theorem qc_X7_begin : QCal q_P 73 1 := ⟨q_wT2 176 (by decide +kernel) (by decide +kernel), q_wT1 3 (by decide +kernel) (by decide +kernel), ⟨by decide +kernel, by decide +kernel⟩, by decide +kernel, by decide +kernel⟩
theorem ql_RX1_42_g : Cond.fieldLink RX1 42 (TX1 5).1 (TX1 5).2.1 (TX1 5).2.2.1 ∈ q_GW := q_wT1 136 (by decide +kernel) (by decide +kernel)
theorem ql_RX1_42 : q_lnk RX1 42 TX1 5 := Or.inl ql_RX1_42_g
theorem qf_1_5 : q_fi 1 5 = true := by decide +kernel
theorem qm_RX1_45 : QVir q_P RX1 45 76 := ⟨q_wT3 207 (by decide +kernel) (by decide +kernel), q_wT3 208 (by decide +kernel) (by decide +kernel), q_wT3 209 (by decide +kernel) (by decide +kernel)⟩
theorem qc_X7_copyOf : QCal q_P 76 1 := ⟨q_wT3 210 (by decide +kernel) (by decide +kernel), q_wT1 3 (by decide +kernel) (by decide +kernel), ⟨by decide +kernel, by decide +kernel⟩, by decide +kernel, by decide +kernel⟩
theorem qy_RX1_49 : q_cpw RX1 49 := ⟨q_wT3 212 (by decide +kernel) (by decide +kernel), q_wT2 89 (by decide +kernel) (by decide +kernel), q_wT2 88 (by decide +kernel) (by decide +kernel), q_wT1 11 (by decide +kernel) (by decide +kernel)⟩
theorem qo_RX2_3 : Cond.methodLink RX2 3 Lib.objectInit ∈ q_GW := q_wT1 27 (by decide +kernel) (by decide +kernel)
theorem ql_RX2_11_g : Cond.fieldLink RX2 11 (TX2 0).1 (TX2 0).2.1 (TX2 0).2.2.1 ∈ q_GW := q_wT1 40 (by decide +kernel) (by decide +kernel)
theorem ql_RX2_11 : q_lnk RX2 11 TX2 0 := Or.inl ql_RX2_11_g
theorem qf_2_0 : q_fi 2 0 = false := by decide +kernel
theorem qm_RX2_15 : QVir q_P RX2 15 17 := ⟨q_wT1 28 (by decide +kernel) (by decide +kernel), q_wT1 29 (by decide +kernel) (by decide +kernel), q_wT1 30 (by decide +kernel) (by decide +kernel)⟩
theorem qc_X2_slotOf : QCal q_P 17 2 := ⟨q_wT1 31 (by decide +kernel) (by decide +kernel), q_wT1 2 (by decide +kernel) (by decide +kernel), ⟨by decide +kernel, by decide +kernel⟩, by decide +kernel, by decide +kernel⟩
theorem qm_RX2_19 : QVir q_P RX2 19 19 := ⟨q_wT1 36 (by decide +kernel) (by decide +kernel), q_wT1 37 (by decide +kernel) (by decide +kernel), q_wT1 38 (by decide +kernel) (by decide +kernel)⟩
theorem qc_X2_write : QCal q_P 19 2 := ⟨q_wT1 39 (by decide +kernel) (by decide +kernel), q_wT1 2 (by decide +kernel) (by decide +kernel), ⟨by decide +kernel, by decide +kernel⟩, by decide +kernel, by decide +kernel⟩
theorem qy_RX2_23 : q_cpw RX2 23 := ⟨q_wT3 62 (by decide +kernel) (by decide +kernel), q_wT2 89 (by decide +kernel) (by decide +kernel), q_wT2 88 (by decide +kernel) (by decide +kernel), q_wT1 11 (by decide +kernel) (by decide +kernel)⟩
theorem ql_RX2_29_g : Cond.fieldLink RX2 29 (TX2 1).1 (TX2 1).2.1 (TX2 1).2.2.1 ∈ q_GW := q_wT1 41 (by decide +kernel) (by decide +kernel)
theorem ql_RX2_29 : q_lnk RX2 29 TX2 1 := Or.inl ql_RX2_29_g
theorem qf_2_1 : q_fi 2 1 = true := by decide +kernel
theorem qm_RX2_33 : QVir q_P RX2 33 16 := ⟨q_wT1 32 (by decide +kernel) (by decide +kernel), q_wT1 33 (by decide +kernel) (by decide +kernel), q_wT1 34 (by decide +kernel) (by decide +kernel)⟩
theorem qc_X2_isFarm : QCal q_P 16 1 := ⟨q_wT1 35 (by decide +kernel) (by decide +kernel), q_wT1 2 (by decide +kernel) (by decide +kernel), ⟨by decide +kernel, by decide +kernel⟩, by decide +kernel, by decide +kernel⟩
theorem qm_RX2_37 : QVir q_P RX2 37 18 := ⟨q_wT2 102 (by decide +kernel) (by decide +kernel), q_wT2 75 (by decide +kernel) (by decide +kernel), q_wT2 76 (by decide +kernel) (by decide +kernel)⟩
theorem qc_X2_value : QCal q_P 18 1 := ⟨q_wT2 77 (by decide +kernel) (by decide +kernel), q_wT1 2 (by decide +kernel) (by decide +kernel), ⟨by decide +kernel, by decide +kernel⟩, by decide +kernel, by decide +kernel⟩
theorem qm_RX2_41 : QVir q_P RX2 41 75 := ⟨q_wT2 193 (by decide +kernel) (by decide +kernel), q_wT2 104 (by decide +kernel) (by decide +kernel), q_wT2 105 (by decide +kernel) (by decide +kernel)⟩
theorem qc_X7_at : QCal q_P 75 1 := ⟨q_wT2 106 (by decide +kernel) (by decide +kernel), q_wT1 3 (by decide +kernel) (by decide +kernel), ⟨by decide +kernel, by decide +kernel⟩, by decide +kernel, by decide +kernel⟩
theorem qm_RX2_46 : QSta q_P RX2 46 23 := ⟨q_wT2 194 (by decide +kernel) (by decide +kernel), q_wT2 195 (by decide +kernel) (by decide +kernel)⟩
theorem qc_X2_barks : QCal q_P 23 2 := ⟨q_wT2 196 (by decide +kernel) (by decide +kernel), q_wT1 2 (by decide +kernel) (by decide +kernel), ⟨by decide +kernel, by decide +kernel⟩, by decide +kernel, by decide +kernel⟩
theorem qo_RX3_3 : Cond.methodLink RX3 3 Lib.objectInit ∈ q_GW := q_wT1 101 (by decide +kernel) (by decide +kernel)
theorem ql_RX3_11_g : Cond.fieldLink RX3 11 (TX3 0).1 (TX3 0).2.1 (TX3 0).2.2.1 ∈ q_GW := q_wT1 102 (by decide +kernel) (by decide +kernel)
theorem ql_RX3_11 : q_lnk RX3 11 TX3 0 := Or.inl ql_RX3_11_g
theorem qf_3_0 : q_fi 3 0 = false := by decide +kernel
theorem ql_RX3_15_g : Cond.fieldLink RX3 15 (TX3 2).1 (TX3 2).2.1 (TX3 2).2.2.1 ∈ q_GW := q_wT1 104 (by decide +kernel) (by decide +kernel)
theorem ql_RX3_15 : q_lnk RX3 15 TX3 2 := Or.inl ql_RX3_15_g
theorem qf_3_2 : q_fi 3 2 = false := by decide +kernel
theorem ql_RX3_18_g : Cond.fieldLink RX3 18 (TX3 1).1 (TX3 1).2.1 (TX3 1).2.2.1 ∈ q_GW := q_wT1 103 (by decide +kernel) (by decide +kernel)
theorem ql_RX3_18 : q_lnk RX3 18 TX3 1 := Or.inl ql_RX3_18_g
theorem qf_3_1 : q_fi 3 1 = true := by decide +kernel
theorem ql_RX3_22 : q_lnk RX3 22 TX4 4 := Or.inr ⟨"RungByHeart", q_wN1 80 (by decide +kernel) (by decide +kernel)⟩
theorem qf_4_4 : q_fi 4 4 = false := by decide +kernel
theorem qy_RX3_23 : q_cpw RX3 23 := ⟨q_wT2 164 (by decide +kernel) (by decide +kernel), q_wT2 89 (by decide +kernel) (by decide +kernel), q_wT2 88 (by decide +kernel) (by decide +kernel), q_wT1 11 (by decide +kernel) (by decide +kernel)⟩
theorem ql_RX3_29 : q_lnk RX3 29 TX4 5 := Or.inr ⟨"RungByHeart", q_wN1 82 (by decide +kernel) (by decide +kernel)⟩
theorem qf_4_5 : q_fi 4 5 = true := by decide +kernel
theorem ql_RX3_30_g : Cond.fieldLink RX3 30 (TX3 3).1 (TX3 3).2.1 (TX3 3).2.2.1 ∈ q_GW := q_wT1 105 (by decide +kernel) (by decide +kernel)
theorem ql_RX3_30 : q_lnk RX3 30 TX3 3 := Or.inl ql_RX3_30_g
theorem qf_3_3 : q_fi 3 3 = true := by decide +kernel
theorem qm_RX3_33 : QVir q_P RX3 33 31 := ⟨q_wT2 213 (by decide +kernel) (by decide +kernel), q_wT2 215 (by decide +kernel) (by decide +kernel), q_wS 18 (by decide +kernel) (by decide +kernel)⟩
theorem qc_X3_push : QCal q_P 31 1 := ⟨q_wT2 216 (by decide +kernel) (by decide +kernel), q_wT1 5 (by decide +kernel) (by decide +kernel), ⟨by decide +kernel, by decide +kernel⟩, by decide +kernel, by decide +kernel⟩
theorem qm_RX3_37 : QVir q_P RX3 37 32 := ⟨q_wT2 217 (by decide +kernel) (by decide +kernel), q_wT2 219 (by decide +kernel) (by decide +kernel), q_wS 19 (by decide +kernel) (by decide +kernel)⟩
theorem qc_X3_pop : QCal q_P 32 0 := ⟨q_wT2 220 (by decide +kernel) (by decide +kernel), q_wT1 5 (by decide +kernel) (by decide +kernel), ⟨by decide +kernel, by decide +kernel⟩, by decide +kernel, by decide +kernel⟩
theorem qm_RX3_41 : QVir q_P RX3 41 28 := ⟨q_wT2 221 (by decide +kernel) (by decide +kernel), q_wT2 223 (by decide +kernel) (by decide +kernel), q_wS 20 (by decide +kernel) (by decide +kernel)⟩
theorem qc_X3_workOut : QCal q_P 28 3 := ⟨q_wT2 224 (by decide +kernel) (by decide +kernel), q_wT1 5 (by decide +kernel) (by decide +kernel), ⟨by decide +kernel, by decide +kernel⟩, by decide +kernel, by decide +kernel⟩
theorem qm_RX3_45 : QSta q_P RX3 45 29 := ⟨q_wT2 225 (by decide +kernel) (by decide +kernel), q_wT2 226 (by decide +kernel) (by decide +kernel)⟩
theorem qc_X3_howMany : QCal q_P 29 2 := ⟨q_wT2 227 (by decide +kernel) (by decide +kernel), q_wT1 5 (by decide +kernel) (by decide +kernel), ⟨by decide +kernel, by decide +kernel⟩, by decide +kernel, by decide +kernel⟩
theorem ql_RX3_49 : q_lnk RX3 49 TX7 1 := Or.inr ⟨"RungByHeart", q_wN1 58 (by decide +kernel) (by decide +kernel)⟩
theorem qf_7_1 : q_fi 7 1 = true := by decide +kernel
theorem qm_RX3_54 : QVir q_P RX3 54 75 := ⟨q_wT2 228 (by decide +kernel) (by decide +kernel), q_wT2 104 (by decide +kernel) (by decide +kernel), q_wT2 105 (by decide +kernel) (by decide +kernel)⟩
theorem ql_RX3_58 : q_lnk RX3 58 TX7 2 := Or.inr ⟨"RungByHeart", q_wN1 60 (by decide +kernel) (by decide +kernel)⟩
theorem qf_7_2 : q_fi 7 2 = true := by decide +kernel
theorem qm_RX3_61 : QSta q_P RX3 61 30 := ⟨q_wT2 229 (by decide +kernel) (by decide +kernel), q_wT2 230 (by decide +kernel) (by decide +kernel)⟩
theorem qc_X3_joined : QCal q_P 30 3 := ⟨q_wT2 231 (by decide +kernel) (by decide +kernel), q_wT1 5 (by decide +kernel) (by decide +kernel), ⟨by decide +kernel, by decide +kernel⟩, by decide +kernel, by decide +kernel⟩
theorem qo_RX4_1 : Cond.methodLink RX4 1 Lib.objectInit ∈ q_GW := q_wT1 73 (by decide +kernel) (by decide +kernel)
theorem ql_RX4_9_g : Cond.fieldLink RX4 9 (TX4 0).1 (TX4 0).2.1 (TX4 0).2.2.1 ∈ q_GW := q_wT1 74 (by decide +kernel) (by decide +kernel)
theorem ql_RX4_9 : q_lnk RX4 9 TX4 0 := Or.inl ql_RX4_9_g
theorem qf_4_0 : q_fi 4 0 = false := by decide +kernel
theorem ql_RX4_15_g : Cond.fieldLink RX4 15 (TX4 4).1 (TX4 4).2.1 (TX4 4).2.2.1 ∈ q_GW := q_wT1 79 (by decide +kernel) (by decide +kernel)
theorem ql_RX4_15 : q_lnk RX4 15 TX4 4 := Or.inl ql_RX4_15_g
theorem ql_RX4_18_g : Cond.fieldLink RX4 18 (TX4 1).1 (TX4 1).2.1 (TX4 1).2.2.1 ∈ q_GW := q_wT1 75 (by decide +kernel) (by decide +kernel)
theorem ql_RX4_18 : q_lnk RX4 18 TX4 1 := Or.inl ql_RX4_18_g
theorem qf_4_1 : q_fi 4 1 = true := by decide +kernel
theorem ql_RX4_22_g : Cond.fieldLink RX4 22 (TX4 2).1 (TX4 2).2.1 (TX4 2).2.2.1 ∈ q_GW := q_wT1 77 (by decide +kernel) (by decide +kernel)
theorem ql_RX4_22 : q_lnk RX4 22 TX4 2 := Or.inl ql_RX4_22_g
theorem qf_4_2 : q_fi 4 2 = true := by decide +kernel
theorem ql_RX4_25_g : Cond.fieldLink RX4 25 (TX4 5).1 (TX4 5).2.1 (TX4 5).2.2.1 ∈ q_GW := q_wT1 81 (by decide +kernel) (by decide +kernel)
theorem ql_RX4_25 : q_lnk RX4 25 TX4 5 := Or.inl ql_RX4_25_g
theorem ql_RX4_28_g : Cond.fieldLink RX4 28 (TX4 3).1 (TX4 3).2.1 (TX4 3).2.2.1 ∈ q_GW := q_wT1 78 (by decide +kernel) (by decide +kernel)
theorem ql_RX4_28 : q_lnk RX4 28 TX4 3 := Or.inl ql_RX4_28_g
theorem qf_4_3 : q_fi 4 3 = true := by decide +kernel
theorem qm_RX4_32 : QVir q_P RX4 32 38 := ⟨q_wT2 123 (by decide +kernel) (by decide +kernel), q_wT2 125 (by decide +kernel) (by decide +kernel), q_wS 5 (by decide +kernel) (by decide +kernel)⟩
theorem qc_X4_readLine : QCal q_P 38 0 := ⟨q_wT2 126 (by decide +kernel) (by decide +kernel), q_wT1 4 (by decide +kernel) (by decide +kernel), ⟨by decide +kernel, by decide +kernel⟩, by decide +kernel, by decide +kernel⟩
theorem qm_RX4_35 : QVir q_P RX4 35 36 := ⟨q_wT2 135 (by decide +kernel) (by decide +kernel), q_wT2 137 (by decide +kernel) (by decide +kernel), q_wS 8 (by decide +kernel) (by decide +kernel)⟩
theorem qc_X4_sign : QCal q_P 36 0 := ⟨q_wT2 138 (by decide +kernel) (by decide +kernel), q_wT1 4 (by decide +kernel) (by decide +kernel), ⟨by decide +kernel, by decide +kernel⟩, by decide +kernel, by decide +kernel⟩
theorem qm_RX4_39 : QVir q_P RX4 39 39 := ⟨q_wT2 127 (by decide +kernel) (by decide +kernel), q_wT2 129 (by decide +kernel) (by decide +kernel), q_wS 6 (by decide +kernel) (by decide +kernel)⟩
theorem qc_X4_readLevel : QCal q_P 39 2 := ⟨q_wT2 130 (by decide +kernel) (by decide +kernel), q_wT1 4 (by decide +kernel) (by decide +kernel), ⟨by decide +kernel, by decide +kernel⟩, by decide +kernel, by decide +kernel⟩
theorem qm_RX4_43 : QVir q_P RX4 43 37 := ⟨q_wT2 146 (by decide +kernel) (by decide +kernel), q_wT2 148 (by decide +kernel) (by decide +kernel), q_wS 10 (by decide +kernel) (by decide +kernel)⟩
theorem qc_X4_emit : QCal q_P 37 1 := ⟨q_wT2 149 (by decide +kernel) (by decide +kernel), q_wT1 4 (by decide +kernel) (by decide +kernel), ⟨by decide +kernel, by decide +kernel⟩, by decide +kernel, by decide +kernel⟩
theorem qm_RX4_47 : QVir q_P RX4 47 41 := ⟨q_wT2 131 (by decide +kernel) (by decide +kernel), q_wT2 133 (by decide +kernel) (by decide +kernel), q_wS 7 (by decide +kernel) (by decide +kernel)⟩
theorem qc_X4_readOperand : QCal q_P 41 1 := ⟨q_wT2 134 (by decide +kernel) (by decide +kernel), q_wT1 4 (by decide +kernel) (by decide +kernel), ⟨by decide +kernel, by decide +kernel⟩, by decide +kernel, by decide +kernel⟩
theorem qm_RX4_50 : QSta q_P RX4 50 40 := ⟨q_wT2 157 (by decide +kernel) (by decide +kernel), q_wT2 158 (by decide +kernel) (by decide +kernel)⟩
theorem qc_X4_belongs : QCal q_P 40 2 := ⟨q_wT2 159 (by decide +kernel) (by decide +kernel), q_wT1 4 (by decide +kernel) (by decide +kernel), ⟨by decide +kernel, by decide +kernel⟩, by decide +kernel, by decide +kernel⟩
theorem qm_RX4_54 : QSta q_P RX4 54 44 := ⟨q_wT2 139 (by decide +kernel) (by decide +kernel), q_wT2 140 (by decide +kernel) (by decide +kernel)⟩
theorem qc_X4_isDigit : QCal q_P 44 1 := ⟨q_wT2 141 (by decide +kernel) (by decide +kernel), q_wT1 4 (by decide +kernel) (by decide +kernel), ⟨by decide +kernel, by decide +kernel⟩, by decide +kernel, by decide +kernel⟩
theorem qm_RX4_58 : QVir q_P RX4 58 43 := ⟨q_wT2 142 (by decide +kernel) (by decide +kernel), q_wT2 144 (by decide +kernel) (by decide +kernel), q_wS 9 (by decide +kernel) (by decide +kernel)⟩
theorem qc_X4_readNumber : QCal q_P 43 0 := ⟨q_wT2 145 (by decide +kernel) (by decide +kernel), q_wT1 4 (by decide +kernel) (by decide +kernel), ⟨by decide +kernel, by decide +kernel⟩, by decide +kernel, by decide +kernel⟩
theorem qm_RX4_61 : QSta q_P RX4 61 45 := ⟨q_wT2 150 (by decide +kernel) (by decide +kernel), q_wT2 151 (by decide +kernel) (by decide +kernel)⟩
theorem qc_X4_isName : QCal q_P 45 1 := ⟨q_wT2 152 (by decide +kernel) (by decide +kernel), q_wT1 4 (by decide +kernel) (by decide +kernel), ⟨by decide +kernel, by decide +kernel⟩, by decide +kernel, by decide +kernel⟩
theorem qm_RX4_64 : QVir q_P RX4 64 42 := ⟨q_wT2 153 (by decide +kernel) (by decide +kernel), q_wT2 155 (by decide +kernel) (by decide +kernel), q_wS 11 (by decide +kernel) (by decide +kernel)⟩
theorem qc_X4_readClosing : QCal q_P 42 0 := ⟨q_wT2 156 (by decide +kernel) (by decide +kernel), q_wT1 4 (by decide +kernel) (by decide +kernel), ⟨by decide +kernel, by decide +kernel⟩, by decide +kernel, by decide +kernel⟩
theorem qo_RX5_3 : Cond.methodLink RX5 3 Lib.objectInit ∈ q_GW := q_wT1 205 (by decide +kernel) (by decide +kernel)
theorem ql_RX5_11_g : Cond.fieldLink RX5 11 (TX5 0).1 (TX5 0).2.1 (TX5 0).2.2.1 ∈ q_GW := q_wT1 206 (by decide +kernel) (by decide +kernel)
theorem ql_RX5_11 : q_lnk RX5 11 TX5 0 := Or.inl ql_RX5_11_g
theorem qf_5_0 : q_fi 5 0 = true := by decide +kernel
theorem ql_RX5_15_g : Cond.fieldLink RX5 15 (TX5 3).1 (TX5 3).2.1 (TX5 3).2.2.1 ∈ q_GW := q_wT1 212 (by decide +kernel) (by decide +kernel)
theorem ql_RX5_15 : q_lnk RX5 15 TX5 3 := Or.inl ql_RX5_15_g
theorem qf_5_3 : q_fi 5 3 = false := by decide +kernel
theorem qm_RX5_19 : QVir q_P RX5 19 47 := ⟨q_wT3 49 (by decide +kernel) (by decide +kernel), q_wT2 46 (by decide +kernel) (by decide +kernel), q_wT2 47 (by decide +kernel) (by decide +kernel)⟩
theorem qc_X5_holdsNothing : QCal q_P 47 0 := ⟨q_wT2 48 (by decide +kernel) (by decide +kernel), q_wT1 9 (by decide +kernel) (by decide +kernel), ⟨by decide +kernel, by decide +kernel⟩, by decide +kernel, by decide +kernel⟩
theorem ql_RX5_23_g : Cond.fieldLink RX5 23 (TX5 1).1 (TX5 1).2.1 (TX5 1).2.2.1 ∈ q_GW := q_wT1 208 (by decide +kernel) (by decide +kernel)
theorem ql_RX5_23 : q_lnk RX5 23 TX5 1 := Or.inl ql_RX5_23_g
theorem qf_5_1 : q_fi 5 1 = true := by decide +kernel
theorem ql_RX5_26_g : Cond.fieldLink RX5 26 (TX5 2).1 (TX5 2).2.1 (TX5 2).2.2.1 ∈ q_GW := q_wT1 210 (by decide +kernel) (by decide +kernel)
theorem ql_RX5_26 : q_lnk RX5 26 TX5 2 := Or.inl ql_RX5_26_g
theorem qf_5_2 : q_fi 5 2 = true := by decide +kernel
theorem qm_RX5_29 : QSta q_P RX5 29 259 := ⟨q_wT4 78 (by decide +kernel) (by decide +kernel), q_wT2 233 (by decide +kernel) (by decide +kernel)⟩
theorem qc_J9_min_7cf53 : QCal q_P 259 2 := ⟨q_wT2 234 (by decide +kernel) (by decide +kernel), q_wT1 12 (by decide +kernel) (by decide +kernel), ⟨by decide +kernel, by decide +kernel⟩, by decide +kernel, by decide +kernel⟩
theorem qm_RX5_35 : QSta q_P RX5 35 258 := ⟨q_wT4 79 (by decide +kernel) (by decide +kernel), q_wT2 236 (by decide +kernel) (by decide +kernel)⟩
theorem qc_J9_max_7cf53 : QCal q_P 258 2 := ⟨q_wT2 237 (by decide +kernel) (by decide +kernel), q_wT1 12 (by decide +kernel) (by decide +kernel), ⟨by decide +kernel, by decide +kernel⟩, by decide +kernel, by decide +kernel⟩
theorem qm_RX5_38 : QVir q_P RX5 38 54 := ⟨q_wT2 62 (by decide +kernel) (by decide +kernel), q_wT2 63 (by decide +kernel) (by decide +kernel), q_wT2 64 (by decide +kernel) (by decide +kernel)⟩
theorem qc_X5_hasPlace : QCal q_P 54 1 := ⟨q_wT2 65 (by decide +kernel) (by decide +kernel), q_wT1 9 (by decide +kernel) (by decide +kernel), ⟨by decide +kernel, by decide +kernel⟩, by decide +kernel, by decide +kernel⟩
theorem qm_RX5_42 : QVir q_P RX5 42 58 := ⟨q_wT4 93 (by decide +kernel) (by decide +kernel), q_wT4 95 (by decide +kernel) (by decide +kernel), q_wS 36 (by decide +kernel) (by decide +kernel)⟩
theorem qc_X5_lowest : QCal q_P 58 1 := ⟨q_wT4 96 (by decide +kernel) (by decide +kernel), q_wT1 9 (by decide +kernel) (by decide +kernel), ⟨by decide +kernel, by decide +kernel⟩, by decide +kernel, by decide +kernel⟩
theorem qo_RX6_3 : Cond.methodLink RX6 3 Lib.objectInit ∈ q_GW := q_wT1 180 (by decide +kernel) (by decide +kernel)
theorem ql_RX6_11_g : Cond.fieldLink RX6 11 (TX6 0).1 (TX6 0).2.1 (TX6 0).2.2.1 ∈ q_GW := q_wT1 181 (by decide +kernel) (by decide +kernel)
theorem ql_RX6_11 : q_lnk RX6 11 TX6 0 := Or.inl ql_RX6_11_g
theorem qf_6_0 : q_fi 6 0 = false := by decide +kernel
theorem ql_RX6_15_g : Cond.fieldLink RX6 15 (TX6 2).1 (TX6 2).2.1 (TX6 2).2.2.1 ∈ q_GW := q_wT1 184 (by decide +kernel) (by decide +kernel)
theorem ql_RX6_15 : q_lnk RX6 15 TX6 2 := Or.inl ql_RX6_15_g
theorem qf_6_2 : q_fi 6 2 = false := by decide +kernel
theorem ql_RX6_18_g : Cond.fieldLink RX6 18 (TX6 1).1 (TX6 1).2.1 (TX6 1).2.2.1 ∈ q_GW := q_wT1 182 (by decide +kernel) (by decide +kernel)
theorem ql_RX6_18 : q_lnk RX6 18 TX6 1 := Or.inl ql_RX6_18_g
theorem qf_6_1 : q_fi 6 1 = true := by decide +kernel
theorem qm_RX6_22 : QVir q_P RX6 22 61 := ⟨q_wT4 16 (by decide +kernel) (by decide +kernel), q_wT4 17 (by decide +kernel) (by decide +kernel), q_wT4 18 (by decide +kernel) (by decide +kernel)⟩
theorem qc_X6_isThere : QCal q_P 61 1 := ⟨q_wT4 19 (by decide +kernel) (by decide +kernel), q_wT1 8 (by decide +kernel) (by decide +kernel), ⟨by decide +kernel, by decide +kernel⟩, by decide +kernel, by decide +kernel⟩
theorem ql_RX6_26_g : Cond.fieldLink RX6 26 (TX6 3).1 (TX6 3).2.1 (TX6 3).2.2.1 ∈ q_GW := q_wT1 185 (by decide +kernel) (by decide +kernel)
theorem ql_RX6_26 : q_lnk RX6 26 TX6 3 := Or.inl ql_RX6_26_g
theorem qf_6_3 : q_fi 6 3 = true := by decide +kernel
theorem qst_RX6_29 : Cond.fieldLink RX6 29 (q_zc 1) (q_zn 1) "[I" ∈ q_GW := q_wT4 43 (by decide +kernel) (by decide +kernel)
theorem qm_RX6_32 : QSta q_P RX6 32 64 := ⟨q_wT4 40 (by decide +kernel) (by decide +kernel), q_wT4 41 (by decide +kernel) (by decide +kernel)⟩
theorem qc_X6_above : QCal q_P 64 1 := ⟨q_wT4 42 (by decide +kernel) (by decide +kernel), q_wT1 8 (by decide +kernel) (by decide +kernel), ⟨by decide +kernel, by decide +kernel⟩, by decide +kernel, by decide +kernel⟩
theorem ql_RX6_36_g : Cond.fieldLink RX6 36 (TX6 4).1 (TX6 4).2.1 (TX6 4).2.2.1 ∈ q_GW := q_wT1 187 (by decide +kernel) (by decide +kernel)
theorem ql_RX6_36 : q_lnk RX6 36 TX6 4 := Or.inl ql_RX6_36_g
theorem qf_6_4 : q_fi 6 4 = true := by decide +kernel
theorem qm_RX6_39 : QVir q_P RX6 39 67 := ⟨q_wT4 20 (by decide +kernel) (by decide +kernel), q_wT4 22 (by decide +kernel) (by decide +kernel), q_wS 33 (by decide +kernel) (by decide +kernel)⟩
theorem qc_X6_own : QCal q_P 67 3 := ⟨q_wT4 23 (by decide +kernel) (by decide +kernel), q_wT1 8 (by decide +kernel) (by decide +kernel), ⟨by decide +kernel, by decide +kernel⟩, by decide +kernel, by decide +kernel⟩
theorem qm_RX6_43 : QVir q_P RX6 43 62 := ⟨q_wT4 24 (by decide +kernel) (by decide +kernel), q_wT4 25 (by decide +kernel) (by decide +kernel), q_wT4 26 (by decide +kernel) (by decide +kernel)⟩
theorem qc_X6_kindOf : QCal q_P 62 1 := ⟨q_wT4 27 (by decide +kernel) (by decide +kernel), q_wT1 8 (by decide +kernel) (by decide +kernel), ⟨by decide +kernel, by decide +kernel⟩, by decide +kernel, by decide +kernel⟩
theorem qm_RX6_46 : QVir q_P RX6 46 71 := ⟨q_wT4 28 (by decide +kernel) (by decide +kernel), q_wT4 30 (by decide +kernel) (by decide +kernel), q_wS 34 (by decide +kernel) (by decide +kernel)⟩
theorem qc_X6_run : QCal q_P 71 4 := ⟨q_wT4 31 (by decide +kernel) (by decide +kernel), q_wT1 8 (by decide +kernel) (by decide +kernel), ⟨by decide +kernel, by decide +kernel⟩, by decide +kernel, by decide +kernel⟩
theorem qst_RX6_50 : Cond.fieldLink RX6 50 (q_zc 2) (q_zn 2) "[I" ∈ q_GW := q_wT4 38 (by decide +kernel) (by decide +kernel)
theorem qm_RX6_53 : QSta q_P RX6 53 68 := ⟨q_wT4 35 (by decide +kernel) (by decide +kernel), q_wT4 36 (by decide +kernel) (by decide +kernel)⟩
theorem qc_X6_ownBody : QCal q_P 68 2 := ⟨q_wT4 37 (by decide +kernel) (by decide +kernel), q_wT1 8 (by decide +kernel) (by decide +kernel), ⟨by decide +kernel, by decide +kernel⟩, by decide +kernel, by decide +kernel⟩
theorem qm_RX6_57 : QSta q_P RX6 57 69 := ⟨q_wT4 32 (by decide +kernel) (by decide +kernel), q_wT4 33 (by decide +kernel) (by decide +kernel)⟩
theorem qc_X6_holder : QCal q_P 69 2 := ⟨q_wT4 34 (by decide +kernel) (by decide +kernel), q_wT1 8 (by decide +kernel) (by decide +kernel), ⟨by decide +kernel, by decide +kernel⟩, by decide +kernel, by decide +kernel⟩
theorem qm_RX6_60 : QVir q_P RX6 60 70 := ⟨q_wT4 45 (by decide +kernel) (by decide +kernel), q_wT4 47 (by decide +kernel) (by decide +kernel), q_wS 35 (by decide +kernel) (by decide +kernel)⟩
theorem qc_X6_begin : QCal q_P 70 1 := ⟨q_wT4 48 (by decide +kernel) (by decide +kernel), q_wT1 8 (by decide +kernel) (by decide +kernel), ⟨by decide +kernel, by decide +kernel⟩, by decide +kernel, by decide +kernel⟩
theorem qo_RX7_3 : Cond.methodLink RX7 3 Lib.objectInit ∈ q_GW := q_wT1 54 (by decide +kernel) (by decide +kernel)
theorem ql_RX7_9_g : Cond.fieldLink RX7 9 (TX7 0).1 (TX7 0).2.1 (TX7 0).2.2.1 ∈ q_GW := q_wT1 55 (by decide +kernel) (by decide +kernel)
theorem ql_RX7_9 : q_lnk RX7 9 TX7 0 := Or.inl ql_RX7_9_g
theorem qf_7_0 : q_fi 7 0 = false := by decide +kernel
theorem ql_RX7_15_g : Cond.fieldLink RX7 15 (TX7 1).1 (TX7 1).2.1 (TX7 1).2.2.1 ∈ q_GW := q_wT1 56 (by decide +kernel) (by decide +kernel)
theorem ql_RX7_15 : q_lnk RX7 15 TX7 1 := Or.inl ql_RX7_15_g
theorem ql_RX7_19_g : Cond.fieldLink RX7 19 (TX7 2).1 (TX7 2).2.1 (TX7 2).2.2.1 ∈ q_GW := q_wT1 59 (by decide +kernel) (by decide +kernel)
theorem ql_RX7_19 : q_lnk RX7 19 TX7 2 := Or.inl ql_RX7_19_g
theorem qm_RX7_22 : QVir q_P RX7 22 75 := ⟨q_wT3 2 (by decide +kernel) (by decide +kernel), q_wT2 104 (by decide +kernel) (by decide +kernel), q_wT2 105 (by decide +kernel) (by decide +kernel)⟩
theorem qy_RX7_26 : q_cpw RX7 26 := ⟨q_wT3 211 (by decide +kernel) (by decide +kernel), q_wT2 89 (by decide +kernel) (by decide +kernel), q_wT2 88 (by decide +kernel) (by decide +kernel), q_wT1 11 (by decide +kernel) (by decide +kernel)⟩
theorem qm_RX7_32 : QSta q_P RX7 32 258 := ⟨q_wT3 40 (by decide +kernel) (by decide +kernel), q_wT2 236 (by decide +kernel) (by decide +kernel)⟩
theorem qo_RX8_1 : Cond.methodLink RX8 1 Lib.objectInit ∈ q_GW := q_wT1 19 (by decide +kernel) (by decide +kernel)
theorem qm_RX8_9 : QIni q_P RX8 9 14 := ⟨Or.inl (q_wT1 24 (by decide +kernel) (by decide +kernel)), q_wT1 25 (by decide +kernel) (by decide +kernel), by decide +kernel, by decide +kernel⟩
theorem qc_X2_init : QCal q_P 14 0 := ⟨q_wT1 26 (by decide +kernel) (by decide +kernel), q_wT1 2 (by decide +kernel) (by decide +kernel), ⟨by decide +kernel, by decide +kernel⟩, by decide +kernel, by decide +kernel⟩
theorem ql_RX8_10_g : Cond.fieldLink RX8 10 (TX8 0).1 (TX8 0).2.1 (TX8 0).2.2.1 ∈ q_GW := q_wT1 224 (by decide +kernel) (by decide +kernel)
theorem ql_RX8_10 : q_lnk RX8 10 TX8 0 := Or.inl ql_RX8_10_g
theorem qf_8_0 : q_fi 8 0 = false := by decide +kernel
theorem ql_RX8_16_g : Cond.fieldLink RX8 16 (TX8 1).1 (TX8 1).2.1 (TX8 1).2.2.1 ∈ q_GW := q_wT1 225 (by decide +kernel) (by decide +kernel)
theorem ql_RX8_16 : q_lnk RX8 16 TX8 1 := Or.inl ql_RX8_16_g
theorem qf_8_1 : q_fi 8 1 = false := by decide +kernel
theorem qm_RX8_21 : QIni q_P RX8 21 72 := ⟨Or.inr ⟨"RungByHeart", q_wN1 51 (by decide +kernel) (by decide +kernel)⟩, q_wT1 52 (by decide +kernel) (by decide +kernel), by decide +kernel, by decide +kernel⟩
theorem ql_RX8_22_g : Cond.fieldLink RX8 22 (TX8 2).1 (TX8 2).2.1 (TX8 2).2.2.1 ∈ q_GW := q_wT1 226 (by decide +kernel) (by decide +kernel)
theorem ql_RX8_22 : q_lnk RX8 22 TX8 2 := Or.inl ql_RX8_22_g
theorem qf_8_2 : q_fi 8 2 = false := by decide +kernel
theorem ql_RX8_26_g : Cond.fieldLink RX8 26 (TX8 3).1 (TX8 3).2.1 (TX8 3).2.2.1 ∈ q_GW := q_wT1 227 (by decide +kernel) (by decide +kernel)
theorem ql_RX8_26 : q_lnk RX8 26 TX8 3 := Or.inl ql_RX8_26_g
theorem qf_8_3 : q_fi 8 3 = false := by decide +kernel
theorem ql_RX8_29_g : Cond.fieldLink RX8 29 (TX8 4).1 (TX8 4).2.1 (TX8 4).2.2.1 ∈ q_GW := q_wT1 228 (by decide +kernel) (by decide +kernel)
theorem ql_RX8_29 : q_lnk RX8 29 TX8 4 := Or.inl ql_RX8_29_g
theorem qf_8_4 : q_fi 8 4 = false := by decide +kernel
theorem qm_RX8_35 : QIni q_P RX8 35 33 := ⟨Or.inr ⟨"RungByHeart", q_wN1 70 (by decide +kernel) (by decide +kernel)⟩, q_wT1 71 (by decide +kernel) (by decide +kernel), by decide +kernel, by decide +kernel⟩
theorem qc_X4_init : QCal q_P 33 0 := ⟨q_wT1 72 (by decide +kernel) (by decide +kernel), q_wT1 4 (by decide +kernel) (by decide +kernel), ⟨by decide +kernel, by decide +kernel⟩, by decide +kernel, by decide +kernel⟩
theorem ql_RX8_36_g : Cond.fieldLink RX8 36 (TX8 5).1 (TX8 5).2.1 (TX8 5).2.2.1 ∈ q_GW := q_wT1 229 (by decide +kernel) (by decide +kernel)
theorem ql_RX8_36 : q_lnk RX8 36 TX8 5 := Or.inl ql_RX8_36_g
theorem qf_8_5 : q_fi 8 5 = false := by decide +kernel
theorem qm_RX8_42 : QIni q_P RX8 42 24 := ⟨Or.inr ⟨"RungByHeart", q_wN1 98 (by decide +kernel) (by decide +kernel)⟩, q_wT1 99 (by decide +kernel) (by decide +kernel), by decide +kernel, by decide +kernel⟩
theorem qc_X3_init : QCal q_P 24 0 := ⟨q_wT1 100 (by decide +kernel) (by decide +kernel), q_wT1 5 (by decide +kernel) (by decide +kernel), ⟨by decide +kernel, by decide +kernel⟩, by decide +kernel, by decide +kernel⟩
theorem ql_RX8_43_g : Cond.fieldLink RX8 43 (TX8 6).1 (TX8 6).2.1 (TX8 6).2.2.1 ∈ q_GW := q_wT1 230 (by decide +kernel) (by decide +kernel)
theorem ql_RX8_43 : q_lnk RX8 43 TX8 6 := Or.inl ql_RX8_43_g
theorem qf_8_6 : q_fi 8 6 = false := by decide +kernel
theorem qm_RX8_49 : QIni q_P RX8 49 7 := ⟨Or.inl (q_wT1 117 (by decide +kernel) (by decide +kernel)), q_wT1 118 (by decide +kernel) (by decide +kernel), by decide +kernel, by decide +kernel⟩
theorem qc_X1_init : QCal q_P 7 0 := ⟨q_wT1 119 (by decide +kernel) (by decide +kernel), q_wT1 6 (by decide +kernel) (by decide +kernel), ⟨by decide +kernel, by decide +kernel⟩, by decide +kernel, by decide +kernel⟩
theorem ql_RX8_50_g : Cond.fieldLink RX8 50 (TX8 7).1 (TX8 7).2.1 (TX8 7).2.2.1 ∈ q_GW := q_wT1 231 (by decide +kernel) (by decide +kernel)
theorem ql_RX8_50 : q_lnk RX8 50 TX8 7 := Or.inl ql_RX8_50_g
theorem qf_8_7 : q_fi 8 7 = false := by decide +kernel
theorem ql_RX8_54_g : Cond.fieldLink RX8 54 (TX8 8).1 (TX8 8).2.1 (TX8 8).2.2.1 ∈ q_GW := q_wT1 232 (by decide +kernel) (by decide +kernel)
theorem ql_RX8_54 : q_lnk RX8 54 TX8 8 := Or.inl ql_RX8_54_g
theorem qf_8_8 : q_fi 8 8 = false := by decide +kernel
theorem qm_RX8_59 : QIni q_P RX8 59 0 := ⟨Or.inr ⟨"RungByHeart", q_wN1 153 (by decide +kernel) (by decide +kernel)⟩, q_wT1 154 (by decide +kernel) (by decide +kernel), by decide +kernel, by decide +kernel⟩
theorem qc_X0_init : QCal q_P 0 0 := ⟨q_wT1 155 (by decide +kernel) (by decide +kernel), q_wT1 7 (by decide +kernel) (by decide +kernel), ⟨by decide +kernel, by decide +kernel⟩, by decide +kernel, by decide +kernel⟩
theorem ql_RX8_60_g : Cond.fieldLink RX8 60 (TX8 10).1 (TX8 10).2.1 (TX8 10).2.2.1 ∈ q_GW := q_wT1 234 (by decide +kernel) (by decide +kernel)
theorem ql_RX8_60 : q_lnk RX8 60 TX8 10 := Or.inl ql_RX8_60_g
theorem qf_8_10 : q_fi 8 10 = false := by decide +kernel
theorem qm_RX8_66 : QIni q_P RX8 66 59 := ⟨Or.inr ⟨"RungByHeart", q_wN1 177 (by decide +kernel) (by decide +kernel)⟩, q_wT1 178 (by decide +kernel) (by decide +kernel), by decide +kernel, by decide +kernel⟩
theorem qc_X6_init : QCal q_P 59 0 := ⟨q_wT1 179 (by decide +kernel) (by decide +kernel), q_wT1 8 (by decide +kernel) (by decide +kernel), ⟨by decide +kernel, by decide +kernel⟩, by decide +kernel, by decide +kernel⟩
theorem ql_RX8_67_g : Cond.fieldLink RX8 67 (TX8 11).1 (TX8 11).2.1 (TX8 11).2.2.1 ∈ q_GW := q_wT1 235 (by decide +kernel) (by decide +kernel)
theorem ql_RX8_67 : q_lnk RX8 67 TX8 11 := Or.inl ql_RX8_67_g
theorem qf_8_11 : q_fi 8 11 = false := by decide +kernel
theorem ql_RX8_73_g : Cond.fieldLink RX8 73 (TX8 12).1 (TX8 12).2.1 (TX8 12).2.2.1 ∈ q_GW := q_wT1 236 (by decide +kernel) (by decide +kernel)
theorem ql_RX8_73 : q_lnk RX8 73 TX8 12 := Or.inl ql_RX8_73_g
theorem qf_8_12 : q_fi 8 12 = false := by decide +kernel
theorem qm_RX8_77 : QIni q_P RX8 77 46 := ⟨Or.inr ⟨"RungByHeart", q_wN1 202 (by decide +kernel) (by decide +kernel)⟩, q_wT1 203 (by decide +kernel) (by decide +kernel), by decide +kernel, by decide +kernel⟩
theorem qc_X5_init : QCal q_P 46 0 := ⟨q_wT1 204 (by decide +kernel) (by decide +kernel), q_wT1 9 (by decide +kernel) (by decide +kernel), ⟨by decide +kernel, by decide +kernel⟩, by decide +kernel, by decide +kernel⟩
theorem qst_RX8_78 : Cond.fieldLink RX8 78 (q_zc 0) (q_zn 0) "[I" ∈ q_GW := q_wT2 28 (by decide +kernel) (by decide +kernel)
theorem qm_RX8_81 : QSta q_P RX8 81 126 := ⟨q_wT2 30 (by decide +kernel) (by decide +kernel), q_wT2 31 (by decide +kernel) (by decide +kernel)⟩
theorem qc_X8_within : QCal q_P 126 2 := ⟨q_wT2 32 (by decide +kernel) (by decide +kernel), q_wT1 1 (by decide +kernel) (by decide +kernel), ⟨by decide +kernel, by decide +kernel⟩, by decide +kernel, by decide +kernel⟩
theorem qm_RX8_85 : QVir q_P RX8 85 21 := ⟨q_wT2 33 (by decide +kernel) (by decide +kernel), q_wT2 34 (by decide +kernel) (by decide +kernel), q_wT2 35 (by decide +kernel) (by decide +kernel)⟩
theorem qc_X2_add : QCal q_P 21 3 := ⟨q_wT2 36 (by decide +kernel) (by decide +kernel), q_wT1 2 (by decide +kernel) (by decide +kernel), ⟨by decide +kernel, by decide +kernel⟩, by decide +kernel, by decide +kernel⟩
theorem qm_RX8_89 : QVir q_P RX8 89 128 := ⟨q_wT2 41 (by decide +kernel) (by decide +kernel), q_wT2 43 (by decide +kernel) (by decide +kernel), q_wS 1 (by decide +kernel) (by decide +kernel)⟩
theorem qc_X8_shelfAt : QCal q_P 128 1 := ⟨q_wT2 44 (by decide +kernel) (by decide +kernel), q_wT1 1 (by decide +kernel) (by decide +kernel), ⟨by decide +kernel, by decide +kernel⟩, by decide +kernel, by decide +kernel⟩
theorem qm_RX8_93 : QVir q_P RX8 93 47 := ⟨q_wT2 45 (by decide +kernel) (by decide +kernel), q_wT2 46 (by decide +kernel) (by decide +kernel), q_wT2 47 (by decide +kernel) (by decide +kernel)⟩
theorem qm_RX8_97 : QVir q_P RX8 97 49 := ⟨q_wT2 49 (by decide +kernel) (by decide +kernel), q_wT2 50 (by decide +kernel) (by decide +kernel), q_wT2 51 (by decide +kernel) (by decide +kernel)⟩
theorem qc_X5_holdsBytes : QCal q_P 49 0 := ⟨q_wT2 52 (by decide +kernel) (by decide +kernel), q_wT1 9 (by decide +kernel) (by decide +kernel), ⟨by decide +kernel, by decide +kernel⟩, by decide +kernel, by decide +kernel⟩
theorem qm_RX8_102 : QVir q_P RX8 102 129 := ⟨q_wT2 54 (by decide +kernel) (by decide +kernel), q_wT2 56 (by decide +kernel) (by decide +kernel), q_wS 2 (by decide +kernel) (by decide +kernel)⟩
theorem qc_X8_comesFrom : QCal q_P 129 2 := ⟨q_wT2 57 (by decide +kernel) (by decide +kernel), q_wT1 1 (by decide +kernel) (by decide +kernel), ⟨by decide +kernel, by decide +kernel⟩, by decide +kernel, by decide +kernel⟩
theorem qm_RX8_106 : QVir q_P RX8 106 17 := ⟨q_wT2 70 (by decide +kernel) (by decide +kernel), q_wT1 29 (by decide +kernel) (by decide +kernel), q_wT1 30 (by decide +kernel) (by decide +kernel)⟩
theorem qm_RX8_110 : QSta q_P RX8 110 127 := ⟨q_wT2 71 (by decide +kernel) (by decide +kernel), q_wT2 72 (by decide +kernel) (by decide +kernel)⟩
theorem qc_X8_mostOf : QCal q_P 127 1 := ⟨q_wT2 73 (by decide +kernel) (by decide +kernel), q_wT1 1 (by decide +kernel) (by decide +kernel), ⟨by decide +kernel, by decide +kernel⟩, by decide +kernel, by decide +kernel⟩
theorem qm_RX8_114 : QVir q_P RX8 114 18 := ⟨q_wT2 74 (by decide +kernel) (by decide +kernel), q_wT2 75 (by decide +kernel) (by decide +kernel), q_wT2 76 (by decide +kernel) (by decide +kernel)⟩
theorem qm_RX8_117 : QVir q_P RX8 117 19 := ⟨q_wT2 78 (by decide +kernel) (by decide +kernel), q_wT1 37 (by decide +kernel) (by decide +kernel), q_wT1 38 (by decide +kernel) (by decide +kernel)⟩
theorem qm_RX8_121 : QVir q_P RX8 121 1 := ⟨q_wT2 79 (by decide +kernel) (by decide +kernel), q_wT2 80 (by decide +kernel) (by decide +kernel), q_wT2 81 (by decide +kernel) (by decide +kernel)⟩
theorem qc_X0_add : QCal q_P 1 3 := ⟨q_wT2 82 (by decide +kernel) (by decide +kernel), q_wT1 7 (by decide +kernel) (by decide +kernel), ⟨by decide +kernel, by decide +kernel⟩, by decide +kernel, by decide +kernel⟩
theorem ql_RX8_124 : q_lnk RX8 124 TX1 0 := Or.inr ⟨"RungByHeart", q_wN1 128 (by decide +kernel) (by decide +kernel)⟩
theorem ql_RX8_125 : q_lnk RX8 125 TX7 1 := Or.inr ⟨"RungByHeart", q_wN1 57 (by decide +kernel) (by decide +kernel)⟩
theorem qm_RX8_129 : QVir q_P RX8 129 147 := ⟨q_wT2 94 (by decide +kernel) (by decide +kernel), q_wT2 96 (by decide +kernel) (by decide +kernel), q_wS 4 (by decide +kernel) (by decide +kernel)⟩
theorem qc_X8_rungNow : QCal q_P 147 0 := ⟨q_wT2 97 (by decide +kernel) (by decide +kernel), q_wT1 1 (by decide +kernel) (by decide +kernel), ⟨by decide +kernel, by decide +kernel⟩, by decide +kernel, by decide +kernel⟩
theorem qm_RX8_133 : QVir q_P RX8 133 34 := ⟨q_wT2 111 (by decide +kernel) (by decide +kernel), q_wT2 112 (by decide +kernel) (by decide +kernel), q_wT2 113 (by decide +kernel) (by decide +kernel)⟩
theorem qc_X4_add : QCal q_P 34 1 := ⟨q_wT2 114 (by decide +kernel) (by decide +kernel), q_wT1 4 (by decide +kernel) (by decide +kernel), ⟨by decide +kernel, by decide +kernel⟩, by decide +kernel, by decide +kernel⟩
theorem ql_RX8_136 : q_lnk RX8 136 TX4 1 := Or.inr ⟨"RungByHeart", q_wN1 76 (by decide +kernel) (by decide +kernel)⟩
theorem qm_RX8_139 : QVir q_P RX8 139 35 := ⟨q_wT2 119 (by decide +kernel) (by decide +kernel), q_wT2 120 (by decide +kernel) (by decide +kernel), q_wT2 121 (by decide +kernel) (by decide +kernel)⟩
theorem qc_X4_read : QCal q_P 35 0 := ⟨q_wT2 122 (by decide +kernel) (by decide +kernel), q_wT1 4 (by decide +kernel) (by decide +kernel), ⟨by decide +kernel, by decide +kernel⟩, by decide +kernel, by decide +kernel⟩
theorem qm_RX8_142 : QVir q_P RX8 142 26 := ⟨q_wT2 160 (by decide +kernel) (by decide +kernel), q_wT2 161 (by decide +kernel) (by decide +kernel), q_wT2 162 (by decide +kernel) (by decide +kernel)⟩
theorem qc_X3_become : QCal q_P 26 1 := ⟨q_wT2 163 (by decide +kernel) (by decide +kernel), q_wT1 5 (by decide +kernel) (by decide +kernel), ⟨by decide +kernel, by decide +kernel⟩, by decide +kernel, by decide +kernel⟩
theorem qm_RX8_146 : QVir q_P RX8 146 134 := ⟨q_wT2 169 (by decide +kernel) (by decide +kernel), q_wT2 171 (by decide +kernel) (by decide +kernel), q_wS 12 (by decide +kernel) (by decide +kernel)⟩
theorem qc_X8_ringDay : QCal q_P 134 3 := ⟨q_wT2 172 (by decide +kernel) (by decide +kernel), q_wT1 1 (by decide +kernel) (by decide +kernel), ⟨by decide +kernel, by decide +kernel⟩, by decide +kernel, by decide +kernel⟩
theorem qm_RX8_150 : QVir q_P RX8 150 75 := ⟨q_wT2 103 (by decide +kernel) (by decide +kernel), q_wT2 104 (by decide +kernel) (by decide +kernel), q_wT2 105 (by decide +kernel) (by decide +kernel)⟩
theorem qm_RX8_153 : QVir q_P RX8 153 16 := ⟨q_wT3 7 (by decide +kernel) (by decide +kernel), q_wT1 33 (by decide +kernel) (by decide +kernel), q_wT1 34 (by decide +kernel) (by decide +kernel)⟩
theorem qm_RX8_156 : QVir q_P RX8 156 22 := ⟨q_wT2 189 (by decide +kernel) (by decide +kernel), q_wT2 190 (by decide +kernel) (by decide +kernel), q_wT2 191 (by decide +kernel) (by decide +kernel)⟩
theorem qc_X2_doing : QCal q_P 22 3 := ⟨q_wT2 192 (by decide +kernel) (by decide +kernel), q_wT1 2 (by decide +kernel) (by decide +kernel), ⟨by decide +kernel, by decide +kernel⟩, by decide +kernel, by decide +kernel⟩
theorem qm_RX8_160 : QVir q_P RX8 160 132 := ⟨q_wT2 181 (by decide +kernel) (by decide +kernel), q_wT2 183 (by decide +kernel) (by decide +kernel), q_wS 14 (by decide +kernel) (by decide +kernel)⟩
theorem qc_X8_countSigns : QCal q_P 132 3 := ⟨q_wT2 184 (by decide +kernel) (by decide +kernel), q_wT1 1 (by decide +kernel) (by decide +kernel), ⟨by decide +kernel, by decide +kernel⟩, by decide +kernel, by decide +kernel⟩
theorem qm_RX8_163 : QVir q_P RX8 163 78 := ⟨q_wT3 16 (by decide +kernel) (by decide +kernel), q_wT3 17 (by decide +kernel) (by decide +kernel), q_wT3 18 (by decide +kernel) (by decide +kernel)⟩
theorem qc_X7_anewFrom : QCal q_P 78 1 := ⟨q_wT3 19 (by decide +kernel) (by decide +kernel), q_wT1 3 (by decide +kernel) (by decide +kernel), ⟨by decide +kernel, by decide +kernel⟩, by decide +kernel, by decide +kernel⟩
theorem qm_RX8_166 : QVir q_P RX8 166 77 := ⟨q_wT3 24 (by decide +kernel) (by decide +kernel), q_wT3 25 (by decide +kernel) (by decide +kernel), q_wT3 26 (by decide +kernel) (by decide +kernel)⟩
theorem qc_X7_silentFrom : QCal q_P 77 0 := ⟨q_wT3 27 (by decide +kernel) (by decide +kernel), q_wT1 3 (by decide +kernel) (by decide +kernel), ⟨by decide +kernel, by decide +kernel⟩, by decide +kernel, by decide +kernel⟩
theorem qm_RX8_169 : QVir q_P RX8 169 79 := ⟨q_wT3 32 (by decide +kernel) (by decide +kernel), q_wT3 33 (by decide +kernel) (by decide +kernel), q_wT3 34 (by decide +kernel) (by decide +kernel)⟩
theorem qc_X7_howOften : QCal q_P 79 1 := ⟨q_wT3 35 (by decide +kernel) (by decide +kernel), q_wT1 3 (by decide +kernel) (by decide +kernel), ⟨by decide +kernel, by decide +kernel⟩, by decide +kernel, by decide +kernel⟩
theorem qm_RX8_172 : QVir q_P RX8 172 80 := ⟨q_wT3 36 (by decide +kernel) (by decide +kernel), q_wT3 37 (by decide +kernel) (by decide +kernel), q_wT3 38 (by decide +kernel) (by decide +kernel)⟩
theorem qc_X7_longest : QCal q_P 80 1 := ⟨q_wT3 39 (by decide +kernel) (by decide +kernel), q_wT1 3 (by decide +kernel) (by decide +kernel), ⟨by decide +kernel, by decide +kernel⟩, by decide +kernel, by decide +kernel⟩
theorem qm_RX8_175 : QVir q_P RX8 175 50 := ⟨q_wT3 45 (by decide +kernel) (by decide +kernel), q_wT3 46 (by decide +kernel) (by decide +kernel), q_wT3 47 (by decide +kernel) (by decide +kernel)⟩
theorem qc_X5_refusal : QCal q_P 50 0 := ⟨q_wT3 48 (by decide +kernel) (by decide +kernel), q_wT1 9 (by decide +kernel) (by decide +kernel), ⟨by decide +kernel, by decide +kernel⟩, by decide +kernel, by decide +kernel⟩
theorem qm_RX8_178 : QVir q_P RX8 178 56 := ⟨q_wT2 58 (by decide +kernel) (by decide +kernel), q_wT2 59 (by decide +kernel) (by decide +kernel), q_wT2 60 (by decide +kernel) (by decide +kernel)⟩
theorem qc_X5_cell : QCal q_P 56 1 := ⟨q_wT2 61 (by decide +kernel) (by decide +kernel), q_wT1 9 (by decide +kernel) (by decide +kernel), ⟨by decide +kernel, by decide +kernel⟩, by decide +kernel, by decide +kernel⟩
theorem ql_RX8_182 : q_lnk RX8 182 TX2 1 := Or.inr ⟨"RungByHeart", q_wN1 42 (by decide +kernel) (by decide +kernel)⟩
theorem qm_RX8_185 : QVir q_P RX8 185 140 := ⟨q_wT3 54 (by decide +kernel) (by decide +kernel), q_wT3 56 (by decide +kernel) (by decide +kernel), q_wS 21 (by decide +kernel) (by decide +kernel)⟩
theorem qc_X8_thinkDeaf : QCal q_P 140 1 := ⟨q_wT3 57 (by decide +kernel) (by decide +kernel), q_wT1 1 (by decide +kernel) (by decide +kernel), ⟨by decide +kernel, by decide +kernel⟩, by decide +kernel, by decide +kernel⟩
theorem qm_RX8_189 : QSta q_P RX8 189 257 := ⟨q_wT3 67 (by decide +kernel) (by decide +kernel), q_wT3 68 (by decide +kernel) (by decide +kernel)⟩
theorem qc_J6_bitCount_0f7a4 : QCal q_P 257 1 := ⟨q_wT3 69 (by decide +kernel) (by decide +kernel), q_wT1 13 (by decide +kernel) (by decide +kernel), ⟨by decide +kernel, by decide +kernel⟩, by decide +kernel, by decide +kernel⟩
theorem qm_RX8_194 : QVir q_P RX8 194 141 := ⟨q_wT3 73 (by decide +kernel) (by decide +kernel), q_wT3 75 (by decide +kernel) (by decide +kernel), q_wS 22 (by decide +kernel) (by decide +kernel)⟩
theorem qc_X8_endsBy : QCal q_P 141 2 := ⟨q_wT3 76 (by decide +kernel) (by decide +kernel), q_wT1 1 (by decide +kernel) (by decide +kernel), ⟨by decide +kernel, by decide +kernel⟩, by decide +kernel, by decide +kernel⟩
theorem qm_RX8_197 : QVir q_P RX8 197 133 := ⟨q_wT2 201 (by decide +kernel) (by decide +kernel), q_wT2 203 (by decide +kernel) (by decide +kernel), q_wS 17 (by decide +kernel) (by decide +kernel)⟩
theorem qc_X8_nextStroke : QCal q_P 133 2 := ⟨q_wT2 204 (by decide +kernel) (by decide +kernel), q_wT1 1 (by decide +kernel) (by decide +kernel), ⟨by decide +kernel, by decide +kernel⟩, by decide +kernel, by decide +kernel⟩
theorem qm_RX8_201 : QVir q_P RX8 201 131 := ⟨q_wT2 197 (by decide +kernel) (by decide +kernel), q_wT2 199 (by decide +kernel) (by decide +kernel), q_wS 16 (by decide +kernel) (by decide +kernel)⟩
theorem qc_X8_addSign : QCal q_P 131 2 := ⟨q_wT2 200 (by decide +kernel) (by decide +kernel), q_wT1 1 (by decide +kernel) (by decide +kernel), ⟨by decide +kernel, by decide +kernel⟩, by decide +kernel, by decide +kernel⟩
theorem qm_RX8_204 : QVir q_P RX8 204 142 := ⟨q_wT3 89 (by decide +kernel) (by decide +kernel), q_wT3 91 (by decide +kernel) (by decide +kernel), q_wS 23 (by decide +kernel) (by decide +kernel)⟩
theorem qc_X8_isChurch : QCal q_P 142 1 := ⟨q_wT3 92 (by decide +kernel) (by decide +kernel), q_wT1 1 (by decide +kernel) (by decide +kernel), ⟨by decide +kernel, by decide +kernel⟩, by decide +kernel, by decide +kernel⟩
theorem qm_RX8_207 : QVir q_P RX8 207 143 := ⟨q_wT3 93 (by decide +kernel) (by decide +kernel), q_wT3 95 (by decide +kernel) (by decide +kernel), q_wS 24 (by decide +kernel) (by decide +kernel)⟩
theorem qc_X8_ringBoth : QCal q_P 143 2 := ⟨q_wT3 96 (by decide +kernel) (by decide +kernel), q_wT1 1 (by decide +kernel) (by decide +kernel), ⟨by decide +kernel, by decide +kernel⟩, by decide +kernel, by decide +kernel⟩
theorem qm_RX8_210 : QVir q_P RX8 210 144 := ⟨q_wT3 101 (by decide +kernel) (by decide +kernel), q_wT3 103 (by decide +kernel) (by decide +kernel), q_wS 25 (by decide +kernel) (by decide +kernel)⟩
theorem qc_X8_alikeFrom : QCal q_P 144 0 := ⟨q_wT3 104 (by decide +kernel) (by decide +kernel), q_wT1 1 (by decide +kernel) (by decide +kernel), ⟨by decide +kernel, by decide +kernel⟩, by decide +kernel, by decide +kernel⟩
theorem qm_RX8_213 : QVir q_P RX8 213 145 := ⟨q_wT3 109 (by decide +kernel) (by decide +kernel), q_wT3 111 (by decide +kernel) (by decide +kernel), q_wS 26 (by decide +kernel) (by decide +kernel)⟩
theorem qc_X8_firstUnseen : QCal q_P 145 3 := ⟨q_wT3 112 (by decide +kernel) (by decide +kernel), q_wT1 1 (by decide +kernel) (by decide +kernel), ⟨by decide +kernel, by decide +kernel⟩, by decide +kernel, by decide +kernel⟩
theorem qm_RX8_217 : QVir q_P RX8 217 139 := ⟨q_wT3 117 (by decide +kernel) (by decide +kernel), q_wT3 119 (by decide +kernel) (by decide +kernel), q_wS 27 (by decide +kernel) (by decide +kernel)⟩
theorem qc_X8_think : QCal q_P 139 3 := ⟨q_wT3 120 (by decide +kernel) (by decide +kernel), q_wT1 1 (by decide +kernel) (by decide +kernel), ⟨by decide +kernel, by decide +kernel⟩, by decide +kernel, by decide +kernel⟩
theorem qm_RX8_220 : QVir q_P RX8 220 146 := ⟨q_wT3 133 (by decide +kernel) (by decide +kernel), q_wT3 135 (by decide +kernel) (by decide +kernel), q_wS 28 (by decide +kernel) (by decide +kernel)⟩
theorem qc_X8_firstUntold : QCal q_P 146 2 := ⟨q_wT3 136 (by decide +kernel) (by decide +kernel), q_wT1 1 (by decide +kernel) (by decide +kernel), ⟨by decide +kernel, by decide +kernel⟩, by decide +kernel, by decide +kernel⟩
theorem qm_RX8_224 : QVir q_P RX8 224 136 := ⟨q_wT3 145 (by decide +kernel) (by decide +kernel), q_wT3 147 (by decide +kernel) (by decide +kernel), q_wS 29 (by decide +kernel) (by decide +kernel)⟩
theorem qc_X8_ringDrawn : QCal q_P 136 2 := ⟨q_wT3 148 (by decide +kernel) (by decide +kernel), q_wT1 1 (by decide +kernel) (by decide +kernel), ⟨by decide +kernel, by decide +kernel⟩, by decide +kernel, by decide +kernel⟩
theorem qm_RX8_227 : QVir q_P RX8 227 149 := ⟨q_wT3 161 (by decide +kernel) (by decide +kernel), q_wT3 163 (by decide +kernel) (by decide +kernel), q_wS 31 (by decide +kernel) (by decide +kernel)⟩
theorem qc_X8_beginDeed : QCal q_P 149 0 := ⟨q_wT3 164 (by decide +kernel) (by decide +kernel), q_wT1 1 (by decide +kernel) (by decide +kernel), ⟨by decide +kernel, by decide +kernel⟩, by decide +kernel, by decide +kernel⟩
theorem qm_RX8_230 : QVir q_P RX8 230 130 := ⟨q_wT2 185 (by decide +kernel) (by decide +kernel), q_wT2 187 (by decide +kernel) (by decide +kernel), q_wS 15 (by decide +kernel) (by decide +kernel)⟩
theorem qc_X8_clearSigns : QCal q_P 130 0 := ⟨q_wT2 188 (by decide +kernel) (by decide +kernel), q_wT1 1 (by decide +kernel) (by decide +kernel), ⟨by decide +kernel, by decide +kernel⟩, by decide +kernel, by decide +kernel⟩
theorem qm_RX8_233 : QVir q_P RX8 233 148 := ⟨q_wT3 165 (by decide +kernel) (by decide +kernel), q_wT3 167 (by decide +kernel) (by decide +kernel), q_wS 32 (by decide +kernel) (by decide +kernel)⟩
theorem qc_X8_doingNow : QCal q_P 148 1 := ⟨q_wT3 168 (by decide +kernel) (by decide +kernel), q_wT1 1 (by decide +kernel) (by decide +kernel), ⟨by decide +kernel, by decide +kernel⟩, by decide +kernel, by decide +kernel⟩
theorem qm_RX8_236 : QVir q_P RX8 236 11 := ⟨q_wT3 173 (by decide +kernel) (by decide +kernel), q_wT3 174 (by decide +kernel) (by decide +kernel), q_wT3 175 (by decide +kernel) (by decide +kernel)⟩
theorem qc_X1_ringOn : QCal q_P 11 1 := ⟨q_wT3 176 (by decide +kernel) (by decide +kernel), q_wT1 6 (by decide +kernel) (by decide +kernel), ⟨by decide +kernel, by decide +kernel⟩, by decide +kernel, by decide +kernel⟩
theorem qm_RX8_239 : QVir q_P RX8 239 10 := ⟨q_wT3 182 (by decide +kernel) (by decide +kernel), q_wT3 183 (by decide +kernel) (by decide +kernel), q_wT3 184 (by decide +kernel) (by decide +kernel)⟩
theorem qc_X1_hearTold : QCal q_P 10 2 := ⟨q_wT3 185 (by decide +kernel) (by decide +kernel), q_wT1 6 (by decide +kernel) (by decide +kernel), ⟨by decide +kernel, by decide +kernel⟩, by decide +kernel, by decide +kernel⟩
theorem qm_RX8_242 : QVir q_P RX8 242 12 := ⟨q_wT3 190 (by decide +kernel) (by decide +kernel), q_wT3 191 (by decide +kernel) (by decide +kernel), q_wT3 192 (by decide +kernel) (by decide +kernel)⟩
theorem qc_X1_beginAnew : QCal q_P 12 0 := ⟨q_wT3 193 (by decide +kernel) (by decide +kernel), q_wT1 6 (by decide +kernel) (by decide +kernel), ⟨by decide +kernel, by decide +kernel⟩, by decide +kernel, by decide +kernel⟩
theorem ql_RX8_245 : q_lnk RX8 245 TX1 2 := Or.inr ⟨"RungByHeart", q_wN1 131 (by decide +kernel) (by decide +kernel)⟩
theorem ql_RX8_248 : q_lnk RX8 248 TX1 3 := Or.inr ⟨"RungByHeart", q_wN1 133 (by decide +kernel) (by decide +kernel)⟩
theorem ql_RX8_250 : q_lnk RX8 250 TX1 4 := Or.inr ⟨"RungByHeart", q_wN1 135 (by decide +kernel) (by decide +kernel)⟩
theorem ql_RX8_253 : q_lnk RX8 253 TX1 5 := Or.inr ⟨"RungByHeart", q_wN1 137 (by decide +kernel) (by decide +kernel)⟩
theorem qm_RX8_256 : QVir q_P RX8 256 13 := ⟨q_wT3 203 (by decide +kernel) (by decide +kernel), q_wT3 204 (by decide +kernel) (by decide +kernel), q_wT3 205 (by decide +kernel) (by decide +kernel)⟩
theorem qc_X1_copyOf : QCal q_P 13 1 := ⟨q_wT3 206 (by decide +kernel) (by decide +kernel), q_wT1 6 (by decide +kernel) (by decide +kernel), ⟨by decide +kernel, by decide +kernel⟩, by decide +kernel, by decide +kernel⟩
theorem ql_RX8_260_g : Cond.fieldLink RX8 260 (TX8 9).1 (TX8 9).2.1 (TX8 9).2.2.1 ∈ q_GW := q_wT1 233 (by decide +kernel) (by decide +kernel)
theorem ql_RX8_260 : q_lnk RX8 260 TX8 9 := Or.inl ql_RX8_260_g
theorem qf_8_9 : q_fi 8 9 = true := by decide +kernel
theorem ql_RX8_264 : q_lnk RX8 264 TX0 3 := Or.inr ⟨"RungByHeart", q_wN1 161 (by decide +kernel) (by decide +kernel)⟩
theorem qm_RX8_267 : QVir q_P RX8 267 4 := ⟨q_wT3 221 (by decide +kernel) (by decide +kernel), q_wT3 222 (by decide +kernel) (by decide +kernel), q_wT3 223 (by decide +kernel) (by decide +kernel)⟩
theorem qc_X0_slotAt : QCal q_P 4 1 := ⟨q_wT3 224 (by decide +kernel) (by decide +kernel), q_wT1 7 (by decide +kernel) (by decide +kernel), ⟨by decide +kernel, by decide +kernel⟩, by decide +kernel, by decide +kernel⟩
theorem qm_RX8_270 : QVir q_P RX8 270 5 := ⟨q_wT3 228 (by decide +kernel) (by decide +kernel), q_wT3 229 (by decide +kernel) (by decide +kernel), q_wT3 230 (by decide +kernel) (by decide +kernel)⟩
theorem qc_X0_wasAt : QCal q_P 5 1 := ⟨q_wT3 231 (by decide +kernel) (by decide +kernel), q_wT1 7 (by decide +kernel) (by decide +kernel), ⟨by decide +kernel, by decide +kernel⟩, by decide +kernel, by decide +kernel⟩
theorem ql_RX8_273 : q_lnk RX8 273 TX0 4 := Or.inr ⟨"RungByHeart", q_wN1 163 (by decide +kernel) (by decide +kernel)⟩
theorem qm_RX8_276 : QVir q_P RX8 276 6 := ⟨q_wT3 236 (by decide +kernel) (by decide +kernel), q_wT3 237 (by decide +kernel) (by decide +kernel), q_wT3 238 (by decide +kernel) (by decide +kernel)⟩
theorem qc_X0_becameAt : QCal q_P 6 1 := ⟨q_wT3 239 (by decide +kernel) (by decide +kernel), q_wT1 7 (by decide +kernel) (by decide +kernel), ⟨by decide +kernel, by decide +kernel⟩, by decide +kernel, by decide +kernel⟩
theorem qm_RX8_279 : QVir q_P RX8 279 60 := ⟨q_wT4 4 (by decide +kernel) (by decide +kernel), q_wT4 5 (by decide +kernel) (by decide +kernel), q_wT4 6 (by decide +kernel) (by decide +kernel)⟩
theorem qc_X6_add : QCal q_P 60 1 := ⟨q_wT4 7 (by decide +kernel) (by decide +kernel), q_wT1 8 (by decide +kernel) (by decide +kernel), ⟨by decide +kernel, by decide +kernel⟩, by decide +kernel, by decide +kernel⟩
theorem qm_RX8_281 : QVir q_P RX8 281 66 := ⟨q_wT4 12 (by decide +kernel) (by decide +kernel), q_wT4 13 (by decide +kernel) (by decide +kernel), q_wT4 14 (by decide +kernel) (by decide +kernel)⟩
theorem qc_X6_perform : QCal q_P 66 3 := ⟨q_wT4 15 (by decide +kernel) (by decide +kernel), q_wT1 8 (by decide +kernel) (by decide +kernel), ⟨by decide +kernel, by decide +kernel⟩, by decide +kernel, by decide +kernel⟩
theorem qm_RX8_284 : QVir q_P RX8 284 63 := ⟨q_wT4 53 (by decide +kernel) (by decide +kernel), q_wT4 54 (by decide +kernel) (by decide +kernel), q_wT4 55 (by decide +kernel) (by decide +kernel)⟩
theorem qc_X6_ranAt : QCal q_P 63 1 := ⟨q_wT4 56 (by decide +kernel) (by decide +kernel), q_wT1 8 (by decide +kernel) (by decide +kernel), ⟨by decide +kernel, by decide +kernel⟩, by decide +kernel, by decide +kernel⟩
theorem qm_RX8_287 : QVir q_P RX8 287 61 := ⟨q_wT4 61 (by decide +kernel) (by decide +kernel), q_wT4 17 (by decide +kernel) (by decide +kernel), q_wT4 18 (by decide +kernel) (by decide +kernel)⟩
theorem qm_RX8_290 : QVir q_P RX8 290 51 := ⟨q_wT4 62 (by decide +kernel) (by decide +kernel), q_wT4 63 (by decide +kernel) (by decide +kernel), q_wT4 64 (by decide +kernel) (by decide +kernel)⟩
theorem qc_X5_clear : QCal q_P 51 0 := ⟨q_wT4 65 (by decide +kernel) (by decide +kernel), q_wT1 9 (by decide +kernel) (by decide +kernel), ⟨by decide +kernel, by decide +kernel⟩, by decide +kernel, by decide +kernel⟩
theorem qm_RX8_293 : QVir q_P RX8 293 52 := ⟨q_wT4 66 (by decide +kernel) (by decide +kernel), q_wT4 67 (by decide +kernel) (by decide +kernel), q_wT4 68 (by decide +kernel) (by decide +kernel)⟩
theorem qc_X5_laySingle : QCal q_P 52 1 := ⟨q_wT4 69 (by decide +kernel) (by decide +kernel), q_wT1 9 (by decide +kernel) (by decide +kernel), ⟨by decide +kernel, by decide +kernel⟩, by decide +kernel, by decide +kernel⟩
theorem qm_RX8_296 : QVir q_P RX8 296 53 := ⟨q_wT4 74 (by decide +kernel) (by decide +kernel), q_wT4 75 (by decide +kernel) (by decide +kernel), q_wT4 76 (by decide +kernel) (by decide +kernel)⟩
theorem qc_X5_layRow : QCal q_P 53 2 := ⟨q_wT4 77 (by decide +kernel) (by decide +kernel), q_wT1 9 (by decide +kernel) (by decide +kernel), ⟨by decide +kernel, by decide +kernel⟩, by decide +kernel, by decide +kernel⟩
theorem qm_RX8_299 : QVir q_P RX8 299 48 := ⟨q_wT4 84 (by decide +kernel) (by decide +kernel), q_wT4 85 (by decide +kernel) (by decide +kernel), q_wT4 86 (by decide +kernel) (by decide +kernel)⟩
theorem qc_X5_holdsRow : QCal q_P 48 0 := ⟨q_wT4 87 (by decide +kernel) (by decide +kernel), q_wT1 9 (by decide +kernel) (by decide +kernel), ⟨by decide +kernel, by decide +kernel⟩, by decide +kernel, by decide +kernel⟩
theorem qm_RX8_302 : QVir q_P RX8 302 54 := ⟨q_wT4 88 (by decide +kernel) (by decide +kernel), q_wT2 63 (by decide +kernel) (by decide +kernel), q_wT2 64 (by decide +kernel) (by decide +kernel)⟩
theorem qm_RX8_305 : QVir q_P RX8 305 57 := ⟨q_wT4 89 (by decide +kernel) (by decide +kernel), q_wT4 90 (by decide +kernel) (by decide +kernel), q_wT4 91 (by decide +kernel) (by decide +kernel)⟩
theorem qc_X5_write : QCal q_P 57 2 := ⟨q_wT4 92 (by decide +kernel) (by decide +kernel), q_wT1 9 (by decide +kernel) (by decide +kernel), ⟨by decide +kernel, by decide +kernel⟩, by decide +kernel, by decide +kernel⟩
theorem ql_RX8_312 : q_lnk RX8 312 TX5 0 := Or.inr ⟨"RungByHeart", q_wN1 207 (by decide +kernel) (by decide +kernel)⟩
theorem qm_RX8_315 : QVir q_P RX8 315 55 := ⟨q_wT4 106 (by decide +kernel) (by decide +kernel), q_wT4 107 (by decide +kernel) (by decide +kernel), q_wT4 108 (by decide +kernel) (by decide +kernel)⟩
theorem qc_X5_hasPlaces : QCal q_P 55 2 := ⟨q_wT4 109 (by decide +kernel) (by decide +kernel), q_wT1 9 (by decide +kernel) (by decide +kernel), ⟨by decide +kernel, by decide +kernel⟩, by decide +kernel, by decide +kernel⟩
theorem ql_RX8_318 : q_lnk RX8 318 TX5 3 := Or.inr ⟨"RungByHeart", q_wN1 213 (by decide +kernel) (by decide +kernel)⟩
theorem qy_RX8_322 : q_cpw RX8 322 := ⟨q_wT4 110 (by decide +kernel) (by decide +kernel), q_wT2 89 (by decide +kernel) (by decide +kernel), q_wT2 88 (by decide +kernel) (by decide +kernel), q_wT1 11 (by decide +kernel) (by decide +kernel)⟩
theorem ql_RX8_328 : q_lnk RX8 328 TX5 2 := Or.inr ⟨"RungByHeart", q_wN1 211 (by decide +kernel) (by decide +kernel)⟩
theorem qm_RX8_331 : QVir q_P RX8 331 62 := ⟨q_wT4 115 (by decide +kernel) (by decide +kernel), q_wT4 25 (by decide +kernel) (by decide +kernel), q_wT4 26 (by decide +kernel) (by decide +kernel)⟩
theorem qm_RX8_334 : QSta q_P RX8 334 65 := ⟨q_wT4 116 (by decide +kernel) (by decide +kernel), q_wT4 117 (by decide +kernel) (by decide +kernel)⟩
theorem qc_X6_isUnder : QCal q_P 65 2 := ⟨q_wT4 118 (by decide +kernel) (by decide +kernel), q_wT1 8 (by decide +kernel) (by decide +kernel), ⟨by decide +kernel, by decide +kernel⟩, by decide +kernel, by decide +kernel⟩
theorem ql_RX8_337 : q_lnk RX8 337 TX6 1 := Or.inr ⟨"RungByHeart", q_wN1 183 (by decide +kernel) (by decide +kernel)⟩
theorem ql_RX8_338 : q_lnk RX8 338 TX6 3 := Or.inr ⟨"RungByHeart", q_wN1 186 (by decide +kernel) (by decide +kernel)⟩
theorem ql_RX8_341 : q_lnk RX8 341 TX5 1 := Or.inr ⟨"RungByHeart", q_wN1 209 (by decide +kernel) (by decide +kernel)⟩
theorem qm_RX8_342 : QVir q_P RX8 342 25 := ⟨q_wT2 205 (by decide +kernel) (by decide +kernel), q_wT2 206 (by decide +kernel) (by decide +kernel), q_wT2 207 (by decide +kernel) (by decide +kernel)⟩
theorem qc_X3_isTold : QCal q_P 25 0 := ⟨q_wT2 208 (by decide +kernel) (by decide +kernel), q_wT1 5 (by decide +kernel) (by decide +kernel), ⟨by decide +kernel, by decide +kernel⟩, by decide +kernel, by decide +kernel⟩
theorem qm_RX8_345 : QVir q_P RX8 345 27 := ⟨q_wT2 209 (by decide +kernel) (by decide +kernel), q_wT2 210 (by decide +kernel) (by decide +kernel), q_wT2 211 (by decide +kernel) (by decide +kernel)⟩
theorem qc_X3_gives : QCal q_P 27 2 := ⟨q_wT2 212 (by decide +kernel) (by decide +kernel), q_wT1 5 (by decide +kernel) (by decide +kernel), ⟨by decide +kernel, by decide +kernel⟩, by decide +kernel, by decide +kernel⟩
theorem qm_RX8_349 : QSta q_P RX8 349 259 := ⟨q_wT2 232 (by decide +kernel) (by decide +kernel), q_wT2 233 (by decide +kernel) (by decide +kernel)⟩
theorem qm_RX8_354 : QSta q_P RX8 354 258 := ⟨q_wT2 235 (by decide +kernel) (by decide +kernel), q_wT2 236 (by decide +kernel) (by decide +kernel)⟩
theorem qm_RX8_357 : QVir q_P RX8 357 20 := ⟨q_wT2 98 (by decide +kernel) (by decide +kernel), q_wT2 99 (by decide +kernel) (by decide +kernel), q_wT2 100 (by decide +kernel) (by decide +kernel)⟩
theorem qc_X2_common : QCal q_P 20 1 := ⟨q_wT2 101 (by decide +kernel) (by decide +kernel), q_wT1 2 (by decide +kernel) (by decide +kernel), ⟨by decide +kernel, by decide +kernel⟩, by decide +kernel, by decide +kernel⟩
theorem qm_RX8_360 : QVir q_P RX8 360 73 := ⟨q_wT2 173 (by decide +kernel) (by decide +kernel), q_wT2 174 (by decide +kernel) (by decide +kernel), q_wT2 175 (by decide +kernel) (by decide +kernel)⟩
theorem qm_RX8_363 : QVir q_P RX8 363 135 := ⟨q_wT2 177 (by decide +kernel) (by decide +kernel), q_wT2 179 (by decide +kernel) (by decide +kernel), q_wS 13 (by decide +kernel) (by decide +kernel)⟩
theorem qc_X8_ringNext : QCal q_P 135 2 := ⟨q_wT2 180 (by decide +kernel) (by decide +kernel), q_wT1 1 (by decide +kernel) (by decide +kernel), ⟨by decide +kernel, by decide +kernel⟩, by decide +kernel, by decide +kernel⟩
theorem qm_RX8_367 : QVir q_P RX8 367 74 := ⟨q_wT2 238 (by decide +kernel) (by decide +kernel), q_wT2 239 (by decide +kernel) (by decide +kernel), q_wT3 0 (by decide +kernel) (by decide +kernel)⟩
theorem qm_RX8_369 : QSta q_P RX8 369 137 := ⟨q_wT3 149 (by decide +kernel) (by decide +kernel), q_wT3 150 (by decide +kernel) (by decide +kernel)⟩
theorem qc_X8_draw : QCal q_P 137 1 := ⟨q_wT3 151 (by decide +kernel) (by decide +kernel), q_wT1 1 (by decide +kernel) (by decide +kernel), ⟨by decide +kernel, by decide +kernel⟩, by decide +kernel, by decide +kernel⟩
theorem qm_RX8_372 : QVir q_P RX8 372 138 := ⟨q_wT3 153 (by decide +kernel) (by decide +kernel), q_wT3 155 (by decide +kernel) (by decide +kernel), q_wS 30 (by decide +kernel) (by decide +kernel)⟩
theorem qc_X8_rains : QCal q_P 138 1 := ⟨q_wT3 156 (by decide +kernel) (by decide +kernel), q_wT1 1 (by decide +kernel) (by decide +kernel), ⟨by decide +kernel, by decide +kernel⟩, by decide +kernel, by decide +kernel⟩
theorem qm_RX8_376 : QVir q_P RX8 376 15 := ⟨q_wT3 58 (by decide +kernel) (by decide +kernel), q_wT3 59 (by decide +kernel) (by decide +kernel), q_wT3 60 (by decide +kernel) (by decide +kernel)⟩
theorem qc_X2_copyOf : QCal q_P 15 1 := ⟨q_wT3 61 (by decide +kernel) (by decide +kernel), q_wT1 2 (by decide +kernel) (by decide +kernel), ⟨by decide +kernel, by decide +kernel⟩, by decide +kernel, by decide +kernel⟩
theorem qm_RX8_379 : QVir q_P RX8 379 9 := ⟨q_wT3 169 (by decide +kernel) (by decide +kernel), q_wT3 170 (by decide +kernel) (by decide +kernel), q_wT3 171 (by decide +kernel) (by decide +kernel)⟩
theorem qc_X1_toldTo : QCal q_P 9 1 := ⟨q_wT3 172 (by decide +kernel) (by decide +kernel), q_wT1 6 (by decide +kernel) (by decide +kernel), ⟨by decide +kernel, by decide +kernel⟩, by decide +kernel, by decide +kernel⟩
theorem qo_RX9_1 : Cond.methodLink RX9 1 Lib.objectInit ∈ q_GW := q_wT4 128 (by decide +kernel) (by decide +kernel)
theorem ql_RX9_7_g : Cond.fieldLink RX9 7 (TX9 1).1 (TX9 1).2.1 (TX9 1).2.2.1 ∈ q_GW := q_wT4 130 (by decide +kernel) (by decide +kernel)
theorem ql_RX9_7 : q_lnk RX9 7 TX9 1 := Or.inl ql_RX9_7_g
theorem qf_9_1 : q_fi 9 1 = true := by decide +kernel
theorem ql_RX9_13_g : Cond.fieldLink RX9 13 (TX9 2).1 (TX9 2).2.1 (TX9 2).2.2.1 ∈ q_GW := q_wT4 131 (by decide +kernel) (by decide +kernel)
theorem ql_RX9_13 : q_lnk RX9 13 TX9 2 := Or.inl ql_RX9_13_g
theorem qf_9_2 : q_fi 9 2 = true := by decide +kernel
theorem ql_RX9_16_g : Cond.fieldLink RX9 16 (TX9 9).1 (TX9 9).2.1 (TX9 9).2.2.1 ∈ q_GW := q_wT4 138 (by decide +kernel) (by decide +kernel)
theorem ql_RX9_16 : q_lnk RX9 16 TX9 9 := Or.inl ql_RX9_16_g
theorem qf_9_9 : q_fi 9 9 = false := by decide +kernel
theorem ql_RX9_20_g : Cond.fieldLink RX9 20 (TX9 10).1 (TX9 10).2.1 (TX9 10).2.2.1 ∈ q_GW := q_wT4 139 (by decide +kernel) (by decide +kernel)
theorem ql_RX9_20 : q_lnk RX9 20 TX9 10 := Or.inl ql_RX9_20_g
theorem qf_9_10 : q_fi 9 10 = false := by decide +kernel
theorem ql_RX9_23_g : Cond.fieldLink RX9 23 (TX9 11).1 (TX9 11).2.1 (TX9 11).2.2.1 ∈ q_GW := q_wT4 140 (by decide +kernel) (by decide +kernel)
theorem ql_RX9_23 : q_lnk RX9 23 TX9 11 := Or.inl ql_RX9_23_g
theorem qf_9_11 : q_fi 9 11 = false := by decide +kernel
theorem ql_RX9_26_g : Cond.fieldLink RX9 26 (TX9 12).1 (TX9 12).2.1 (TX9 12).2.2.1 ∈ q_GW := q_wT4 141 (by decide +kernel) (by decide +kernel)
theorem ql_RX9_26 : q_lnk RX9 26 TX9 12 := Or.inl ql_RX9_26_g
theorem qf_9_12 : q_fi 9 12 = false := by decide +kernel
theorem ql_RX9_29_g : Cond.fieldLink RX9 29 (TX9 13).1 (TX9 13).2.1 (TX9 13).2.2.1 ∈ q_GW := q_wT4 142 (by decide +kernel) (by decide +kernel)
theorem ql_RX9_29 : q_lnk RX9 29 TX9 13 := Or.inl ql_RX9_29_g
theorem qf_9_13 : q_fi 9 13 = false := by decide +kernel
theorem ql_RX9_32_g : Cond.fieldLink RX9 32 (TX9 14).1 (TX9 14).2.1 (TX9 14).2.2.1 ∈ q_GW := q_wT4 143 (by decide +kernel) (by decide +kernel)
theorem ql_RX9_32 : q_lnk RX9 32 TX9 14 := Or.inl ql_RX9_32_g
theorem qf_9_14 : q_fi 9 14 = false := by decide +kernel
theorem ql_RX9_35_g : Cond.fieldLink RX9 35 (TX9 15).1 (TX9 15).2.1 (TX9 15).2.2.1 ∈ q_GW := q_wT4 144 (by decide +kernel) (by decide +kernel)
theorem ql_RX9_35 : q_lnk RX9 35 TX9 15 := Or.inl ql_RX9_35_g
theorem qf_9_15 : q_fi 9 15 = false := by decide +kernel
theorem ql_RX9_38_g : Cond.fieldLink RX9 38 (TX9 16).1 (TX9 16).2.1 (TX9 16).2.2.1 ∈ q_GW := q_wT4 145 (by decide +kernel) (by decide +kernel)
theorem ql_RX9_38 : q_lnk RX9 38 TX9 16 := Or.inl ql_RX9_38_g
theorem qf_9_16 : q_fi 9 16 = false := by decide +kernel
theorem ql_RX9_41_g : Cond.fieldLink RX9 41 (TX9 17).1 (TX9 17).2.1 (TX9 17).2.2.1 ∈ q_GW := q_wT4 146 (by decide +kernel) (by decide +kernel)
theorem ql_RX9_41 : q_lnk RX9 41 TX9 17 := Or.inl ql_RX9_41_g
theorem qf_9_17 : q_fi 9 17 = false := by decide +kernel
theorem ql_RX9_44_g : Cond.fieldLink RX9 44 (TX9 18).1 (TX9 18).2.1 (TX9 18).2.2.1 ∈ q_GW := q_wT4 147 (by decide +kernel) (by decide +kernel)
theorem ql_RX9_44 : q_lnk RX9 44 TX9 18 := Or.inl ql_RX9_44_g
theorem qf_9_18 : q_fi 9 18 = false := by decide +kernel
theorem ql_RX9_47_g : Cond.fieldLink RX9 47 (TX9 19).1 (TX9 19).2.1 (TX9 19).2.2.1 ∈ q_GW := q_wT4 148 (by decide +kernel) (by decide +kernel)
theorem ql_RX9_47 : q_lnk RX9 47 TX9 19 := Or.inl ql_RX9_47_g
theorem qf_9_19 : q_fi 9 19 = false := by decide +kernel
theorem ql_RX9_50_g : Cond.fieldLink RX9 50 (TX9 25).1 (TX9 25).2.1 (TX9 25).2.2.1 ∈ q_GW := q_wT4 154 (by decide +kernel) (by decide +kernel)
theorem ql_RX9_50 : q_lnk RX9 50 TX9 25 := Or.inl ql_RX9_50_g
theorem qf_9_25 : q_fi 9 25 = false := by decide +kernel
theorem ql_RX9_53_g : Cond.fieldLink RX9 53 (TX9 26).1 (TX9 26).2.1 (TX9 26).2.2.1 ∈ q_GW := q_wT4 155 (by decide +kernel) (by decide +kernel)
theorem ql_RX9_53 : q_lnk RX9 53 TX9 26 := Or.inl ql_RX9_53_g
theorem qf_9_26 : q_fi 9 26 = false := by decide +kernel
theorem ql_RX9_56_g : Cond.fieldLink RX9 56 (TX9 27).1 (TX9 27).2.1 (TX9 27).2.2.1 ∈ q_GW := q_wT4 156 (by decide +kernel) (by decide +kernel)
theorem ql_RX9_56 : q_lnk RX9 56 TX9 27 := Or.inl ql_RX9_56_g
theorem qf_9_27 : q_fi 9 27 = false := by decide +kernel
theorem ql_RX9_59_g : Cond.fieldLink RX9 59 (TX9 28).1 (TX9 28).2.1 (TX9 28).2.2.1 ∈ q_GW := q_wT4 157 (by decide +kernel) (by decide +kernel)
theorem ql_RX9_59 : q_lnk RX9 59 TX9 28 := Or.inl ql_RX9_59_g
theorem qf_9_28 : q_fi 9 28 = false := by decide +kernel
theorem ql_RX9_62_g : Cond.fieldLink RX9 62 (TX9 29).1 (TX9 29).2.1 (TX9 29).2.2.1 ∈ q_GW := q_wT4 158 (by decide +kernel) (by decide +kernel)
theorem ql_RX9_62 : q_lnk RX9 62 TX9 29 := Or.inl ql_RX9_62_g
theorem qf_9_29 : q_fi 9 29 = false := by decide +kernel
theorem ql_RX9_65_g : Cond.fieldLink RX9 65 (TX9 31).1 (TX9 31).2.1 (TX9 31).2.2.1 ∈ q_GW := q_wT4 160 (by decide +kernel) (by decide +kernel)
theorem ql_RX9_65 : q_lnk RX9 65 TX9 31 := Or.inl ql_RX9_65_g
theorem qf_9_31 : q_fi 9 31 = true := by decide +kernel
theorem ql_RX9_68_g : Cond.fieldLink RX9 68 (TX9 35).1 (TX9 35).2.1 (TX9 35).2.2.1 ∈ q_GW := q_wT4 164 (by decide +kernel) (by decide +kernel)
theorem ql_RX9_68 : q_lnk RX9 68 TX9 35 := Or.inl ql_RX9_68_g
theorem qf_9_35 : q_fi 9 35 = false := by decide +kernel
theorem ql_RX9_72_g : Cond.fieldLink RX9 72 (TX9 36).1 (TX9 36).2.1 (TX9 36).2.2.1 ∈ q_GW := q_wT4 165 (by decide +kernel) (by decide +kernel)
theorem ql_RX9_72 : q_lnk RX9 72 TX9 36 := Or.inl ql_RX9_72_g
theorem qf_9_36 : q_fi 9 36 = false := by decide +kernel
theorem ql_RX9_75_g : Cond.fieldLink RX9 75 (TX9 42).1 (TX9 42).2.1 (TX9 42).2.2.1 ∈ q_GW := q_wT4 171 (by decide +kernel) (by decide +kernel)
theorem ql_RX9_75 : q_lnk RX9 75 TX9 42 := Or.inl ql_RX9_75_g
theorem qf_9_42 : q_fi 9 42 = false := by decide +kernel
theorem ql_RX9_78_g : Cond.fieldLink RX9 78 (TX9 43).1 (TX9 43).2.1 (TX9 43).2.2.1 ∈ q_GW := q_wT4 172 (by decide +kernel) (by decide +kernel)
theorem ql_RX9_78 : q_lnk RX9 78 TX9 43 := Or.inl ql_RX9_78_g
theorem qf_9_43 : q_fi 9 43 = false := by decide +kernel
theorem ql_RX9_81_g : Cond.fieldLink RX9 81 (TX9 45).1 (TX9 45).2.1 (TX9 45).2.2.1 ∈ q_GW := q_wT4 174 (by decide +kernel) (by decide +kernel)
theorem ql_RX9_81 : q_lnk RX9 81 TX9 45 := Or.inl ql_RX9_81_g
theorem qf_9_45 : q_fi 9 45 = false := by decide +kernel
theorem ql_RX9_84_g : Cond.fieldLink RX9 84 (TX9 46).1 (TX9 46).2.1 (TX9 46).2.2.1 ∈ q_GW := q_wT4 175 (by decide +kernel) (by decide +kernel)
theorem ql_RX9_84 : q_lnk RX9 84 TX9 46 := Or.inl ql_RX9_84_g
theorem qf_9_46 : q_fi 9 46 = false := by decide +kernel
theorem ql_RX9_87_g : Cond.fieldLink RX9 87 (TX9 47).1 (TX9 47).2.1 (TX9 47).2.2.1 ∈ q_GW := q_wT4 176 (by decide +kernel) (by decide +kernel)
theorem ql_RX9_87 : q_lnk RX9 87 TX9 47 := Or.inl ql_RX9_87_g
theorem qf_9_47 : q_fi 9 47 = false := by decide +kernel
theorem ql_RX9_90_g : Cond.fieldLink RX9 90 (TX9 48).1 (TX9 48).2.1 (TX9 48).2.2.1 ∈ q_GW := q_wT4 177 (by decide +kernel) (by decide +kernel)
theorem ql_RX9_90 : q_lnk RX9 90 TX9 48 := Or.inl ql_RX9_90_g
theorem qf_9_48 : q_fi 9 48 = false := by decide +kernel
theorem ql_RX9_93_g : Cond.fieldLink RX9 93 (TX9 49).1 (TX9 49).2.1 (TX9 49).2.2.1 ∈ q_GW := q_wT4 178 (by decide +kernel) (by decide +kernel)
theorem ql_RX9_93 : q_lnk RX9 93 TX9 49 := Or.inl ql_RX9_93_g
theorem qf_9_49 : q_fi 9 49 = false := by decide +kernel
theorem ql_RX9_96_g : Cond.fieldLink RX9 96 (TX9 50).1 (TX9 50).2.1 (TX9 50).2.2.1 ∈ q_GW := q_wT4 179 (by decide +kernel) (by decide +kernel)
theorem ql_RX9_96 : q_lnk RX9 96 TX9 50 := Or.inl ql_RX9_96_g
theorem qf_9_50 : q_fi 9 50 = false := by decide +kernel
theorem ql_RX9_99_g : Cond.fieldLink RX9 99 (TX9 51).1 (TX9 51).2.1 (TX9 51).2.2.1 ∈ q_GW := q_wT4 180 (by decide +kernel) (by decide +kernel)
theorem ql_RX9_99 : q_lnk RX9 99 TX9 51 := Or.inl ql_RX9_99_g
theorem qf_9_51 : q_fi 9 51 = false := by decide +kernel
theorem ql_RX9_103_g : Cond.fieldLink RX9 103 (TX9 52).1 (TX9 52).2.1 (TX9 52).2.2.1 ∈ q_GW := q_wT4 181 (by decide +kernel) (by decide +kernel)
theorem ql_RX9_103 : q_lnk RX9 103 TX9 52 := Or.inl ql_RX9_103_g
theorem qf_9_52 : q_fi 9 52 = false := by decide +kernel
theorem ql_RX9_106_g : Cond.fieldLink RX9 106 (TX9 0).1 (TX9 0).2.1 (TX9 0).2.2.1 ∈ q_GW := q_wT4 129 (by decide +kernel) (by decide +kernel)
theorem ql_RX9_106 : q_lnk RX9 106 TX9 0 := Or.inl ql_RX9_106_g
theorem qf_9_0 : q_fi 9 0 = true := by decide +kernel
theorem qm_RX9_109 : QVir q_P RX9 109 151 := ⟨q_wT5 54 (by decide +kernel) (by decide +kernel), q_wT5 56 (by decide +kernel) (by decide +kernel), q_wS 37 (by decide +kernel) (by decide +kernel)⟩
theorem qc_X9_isIn : QCal q_P 151 3 := ⟨q_wT5 57 (by decide +kernel) (by decide +kernel), q_wT1 10 (by decide +kernel) (by decide +kernel), ⟨by decide +kernel, by decide +kernel⟩, by decide +kernel, by decide +kernel⟩
theorem qm_RX9_113 : QVir q_P RX9 113 156 := ⟨q_wT5 58 (by decide +kernel) (by decide +kernel), q_wT5 60 (by decide +kernel) (by decide +kernel), q_wS 38 (by decide +kernel) (by decide +kernel)⟩
theorem qc_X9_adds : QCal q_P 156 3 := ⟨q_wT5 61 (by decide +kernel) (by decide +kernel), q_wT1 10 (by decide +kernel) (by decide +kernel), ⟨by decide +kernel, by decide +kernel⟩, by decide +kernel, by decide +kernel⟩
theorem qm_RX9_117 : QVir q_P RX9 117 246 := ⟨q_wT5 66 (by decide +kernel) (by decide +kernel), q_wT5 68 (by decide +kernel) (by decide +kernel), q_wS 39 (by decide +kernel) (by decide +kernel)⟩
theorem qc_X9_isShelf : QCal q_P 246 1 := ⟨q_wT5 69 (by decide +kernel) (by decide +kernel), q_wT1 10 (by decide +kernel) (by decide +kernel), ⟨by decide +kernel, by decide +kernel⟩, by decide +kernel, by decide +kernel⟩
theorem qm_RX9_121 : QVir q_P RX9 121 247 := ⟨q_wT5 70 (by decide +kernel) (by decide +kernel), q_wT5 72 (by decide +kernel) (by decide +kernel), q_wS 40 (by decide +kernel) (by decide +kernel)⟩
theorem qc_X9_intAt : QCal q_P 247 2 := ⟨q_wT5 73 (by decide +kernel) (by decide +kernel), q_wT1 10 (by decide +kernel) (by decide +kernel), ⟨by decide +kernel, by decide +kernel⟩, by decide +kernel, by decide +kernel⟩
theorem qm_RX9_125 : QVir q_P RX9 125 152 := ⟨q_wT5 82 (by decide +kernel) (by decide +kernel), q_wT5 84 (by decide +kernel) (by decide +kernel), q_wS 42 (by decide +kernel) (by decide +kernel)⟩
theorem qc_X9_isFarm : QCal q_P 152 1 := ⟨q_wT5 85 (by decide +kernel) (by decide +kernel), q_wT1 10 (by decide +kernel) (by decide +kernel), ⟨by decide +kernel, by decide +kernel⟩, by decide +kernel, by decide +kernel⟩
theorem ql_RX9_128_g : Cond.fieldLink RX9 128 (TX9 3).1 (TX9 3).2.1 (TX9 3).2.2.1 ∈ q_GW := q_wT4 132 (by decide +kernel) (by decide +kernel)
theorem ql_RX9_128 : q_lnk RX9 128 TX9 3 := Or.inl ql_RX9_128_g
theorem qf_9_3 : q_fi 9 3 = true := by decide +kernel
theorem ql_RX9_131_g : Cond.fieldLink RX9 131 (TX9 20).1 (TX9 20).2.1 (TX9 20).2.2.1 ∈ q_GW := q_wT4 149 (by decide +kernel) (by decide +kernel)
theorem ql_RX9_131 : q_lnk RX9 131 TX9 20 := Or.inl ql_RX9_131_g
theorem qf_9_20 : q_fi 9 20 = true := by decide +kernel
theorem qm_RX9_134 : QVir q_P RX9 134 159 := ⟨q_wT5 78 (by decide +kernel) (by decide +kernel), q_wT5 80 (by decide +kernel) (by decide +kernel), q_wS 41 (by decide +kernel) (by decide +kernel)⟩
theorem qc_X9_isNumber : QCal q_P 159 2 := ⟨q_wT5 81 (by decide +kernel) (by decide +kernel), q_wT1 10 (by decide +kernel) (by decide +kernel), ⟨by decide +kernel, by decide +kernel⟩, by decide +kernel, by decide +kernel⟩
theorem qm_RX9_138 : QVir q_P RX9 138 158 := ⟨q_wT5 86 (by decide +kernel) (by decide +kernel), q_wT5 88 (by decide +kernel) (by decide +kernel), q_wS 43 (by decide +kernel) (by decide +kernel)⟩
theorem qc_X9_most : QCal q_P 158 1 := ⟨q_wT5 89 (by decide +kernel) (by decide +kernel), q_wT1 10 (by decide +kernel) (by decide +kernel), ⟨by decide +kernel, by decide +kernel⟩, by decide +kernel, by decide +kernel⟩
theorem qm_RX9_142 : QVir q_P RX9 142 160 := ⟨q_wT5 90 (by decide +kernel) (by decide +kernel), q_wT5 92 (by decide +kernel) (by decide +kernel), q_wS 44 (by decide +kernel) (by decide +kernel)⟩
theorem qc_X9_read : QCal q_P 160 2 := ⟨q_wT5 93 (by decide +kernel) (by decide +kernel), q_wT1 10 (by decide +kernel) (by decide +kernel), ⟨by decide +kernel, by decide +kernel⟩, by decide +kernel, by decide +kernel⟩
theorem qm_RX9_145 : QVir q_P RX9 145 162 := ⟨q_wT5 94 (by decide +kernel) (by decide +kernel), q_wT5 96 (by decide +kernel) (by decide +kernel), q_wS 45 (by decide +kernel) (by decide +kernel)⟩
theorem qc_X9_drops : QCal q_P 162 0 := ⟨q_wT5 97 (by decide +kernel) (by decide +kernel), q_wT1 10 (by decide +kernel) (by decide +kernel), ⟨by decide +kernel, by decide +kernel⟩, by decide +kernel, by decide +kernel⟩
theorem ql_RX9_148_g : Cond.fieldLink RX9 148 (TX9 21).1 (TX9 21).2.1 (TX9 21).2.2.1 ∈ q_GW := q_wT4 150 (by decide +kernel) (by decide +kernel)
theorem ql_RX9_148 : q_lnk RX9 148 TX9 21 := Or.inl ql_RX9_148_g
theorem qf_9_21 : q_fi 9 21 = true := by decide +kernel
theorem qm_RX9_151 : QVir q_P RX9 151 161 := ⟨q_wT5 98 (by decide +kernel) (by decide +kernel), q_wT5 100 (by decide +kernel) (by decide +kernel), q_wS 46 (by decide +kernel) (by decide +kernel)⟩
theorem qc_X9_write : QCal q_P 161 3 := ⟨q_wT5 101 (by decide +kernel) (by decide +kernel), q_wT1 10 (by decide +kernel) (by decide +kernel), ⟨by decide +kernel, by decide +kernel⟩, by decide +kernel, by decide +kernel⟩
theorem ql_RX9_155_g : Cond.fieldLink RX9 155 (TX9 37).1 (TX9 37).2.1 (TX9 37).2.2.1 ∈ q_GW := q_wT4 166 (by decide +kernel) (by decide +kernel)
theorem ql_RX9_155 : q_lnk RX9 155 TX9 37 := Or.inl ql_RX9_155_g
theorem qf_9_37 : q_fi 9 37 = true := by decide +kernel
theorem qm_RX9_158 : QVir q_P RX9 158 230 := ⟨q_wT5 114 (by decide +kernel) (by decide +kernel), q_wT5 116 (by decide +kernel) (by decide +kernel), q_wS 47 (by decide +kernel) (by decide +kernel)⟩
theorem qc_X9_rungNow : QCal q_P 230 0 := ⟨q_wT5 117 (by decide +kernel) (by decide +kernel), q_wT1 10 (by decide +kernel) (by decide +kernel), ⟨by decide +kernel, by decide +kernel⟩, by decide +kernel, by decide +kernel⟩
theorem ql_RX9_162_g : Cond.fieldLink RX9 162 (TX9 4).1 (TX9 4).2.1 (TX9 4).2.2.1 ∈ q_GW := q_wT4 133 (by decide +kernel) (by decide +kernel)
theorem ql_RX9_162 : q_lnk RX9 162 TX9 4 := Or.inl ql_RX9_162_g
theorem qf_9_4 : q_fi 9 4 = true := by decide +kernel
theorem ql_RX9_165_g : Cond.fieldLink RX9 165 (TX9 22).1 (TX9 22).2.1 (TX9 22).2.2.1 ∈ q_GW := q_wT4 151 (by decide +kernel) (by decide +kernel)
theorem ql_RX9_165 : q_lnk RX9 165 TX9 22 := Or.inl ql_RX9_165_g
theorem qf_9_22 : q_fi 9 22 = true := by decide +kernel
theorem ql_RX9_168_g : Cond.fieldLink RX9 168 (TX9 24).1 (TX9 24).2.1 (TX9 24).2.2.1 ∈ q_GW := q_wT4 153 (by decide +kernel) (by decide +kernel)
theorem ql_RX9_168 : q_lnk RX9 168 TX9 24 := Or.inl ql_RX9_168_g
theorem qf_9_24 : q_fi 9 24 = true := by decide +kernel
theorem qm_RX9_172 : QVir q_P RX9 172 168 := ⟨q_wT5 154 (by decide +kernel) (by decide +kernel), q_wT5 156 (by decide +kernel) (by decide +kernel), q_wS 55 (by decide +kernel) (by decide +kernel)⟩
theorem qc_X9_next : QCal q_P 168 0 := ⟨q_wT5 157 (by decide +kernel) (by decide +kernel), q_wT1 10 (by decide +kernel) (by decide +kernel), ⟨by decide +kernel, by decide +kernel⟩, by decide +kernel, by decide +kernel⟩
theorem qm_RX9_175 : QVir q_P RX9 175 170 := ⟨q_wT5 158 (by decide +kernel) (by decide +kernel), q_wT5 160 (by decide +kernel) (by decide +kernel), q_wS 56 (by decide +kernel) (by decide +kernel)⟩
theorem qc_X9_isDigit : QCal q_P 170 1 := ⟨q_wT5 161 (by decide +kernel) (by decide +kernel), q_wT1 10 (by decide +kernel) (by decide +kernel), ⟨by decide +kernel, by decide +kernel⟩, by decide +kernel, by decide +kernel⟩
theorem qm_RX9_178 : QVir q_P RX9 178 171 := ⟨q_wT5 162 (by decide +kernel) (by decide +kernel), q_wT5 164 (by decide +kernel) (by decide +kernel), q_wS 57 (by decide +kernel) (by decide +kernel)⟩
theorem qc_X9_isName : QCal q_P 171 1 := ⟨q_wT5 165 (by decide +kernel) (by decide +kernel), q_wT1 10 (by decide +kernel) (by decide +kernel), ⟨by decide +kernel, by decide +kernel⟩, by decide +kernel, by decide +kernel⟩
theorem ql_RX9_181_g : Cond.fieldLink RX9 181 (TX9 23).1 (TX9 23).2.1 (TX9 23).2.2.1 ∈ q_GW := q_wT4 152 (by decide +kernel) (by decide +kernel)
theorem ql_RX9_181 : q_lnk RX9 181 TX9 23 := Or.inl ql_RX9_181_g
theorem qf_9_23 : q_fi 9 23 = true := by decide +kernel
theorem qm_RX9_184 : QVir q_P RX9 184 177 := ⟨q_wT5 130 (by decide +kernel) (by decide +kernel), q_wT5 132 (by decide +kernel) (by decide +kernel), q_wS 49 (by decide +kernel) (by decide +kernel)⟩
theorem qc_X9_readsE : QCal q_P 177 0 := ⟨q_wT5 133 (by decide +kernel) (by decide +kernel), q_wT1 10 (by decide +kernel) (by decide +kernel), ⟨by decide +kernel, by decide +kernel⟩, by decide +kernel, by decide +kernel⟩
theorem qm_RX9_187 : QVir q_P RX9 187 169 := ⟨q_wT5 166 (by decide +kernel) (by decide +kernel), q_wT5 168 (by decide +kernel) (by decide +kernel), q_wS 58 (by decide +kernel) (by decide +kernel)⟩
theorem qc_X9_isNext : QCal q_P 169 1 := ⟨q_wT5 169 (by decide +kernel) (by decide +kernel), q_wT1 10 (by decide +kernel) (by decide +kernel), ⟨by decide +kernel, by decide +kernel⟩, by decide +kernel, by decide +kernel⟩
theorem qm_RX9_191 : QVir q_P RX9 191 172 := ⟨q_wT5 150 (by decide +kernel) (by decide +kernel), q_wT5 152 (by decide +kernel) (by decide +kernel), q_wS 54 (by decide +kernel) (by decide +kernel)⟩
theorem qc_X9_readsO : QCal q_P 172 0 := ⟨q_wT5 153 (by decide +kernel) (by decide +kernel), q_wT1 10 (by decide +kernel) (by decide +kernel), ⟨by decide +kernel, by decide +kernel⟩, by decide +kernel, by decide +kernel⟩
theorem qm_RX9_194 : QVir q_P RX9 194 173 := ⟨q_wT5 146 (by decide +kernel) (by decide +kernel), q_wT5 148 (by decide +kernel) (by decide +kernel), q_wS 53 (by decide +kernel) (by decide +kernel)⟩
theorem qc_X9_readsP : QCal q_P 173 0 := ⟨q_wT5 149 (by decide +kernel) (by decide +kernel), q_wT1 10 (by decide +kernel) (by decide +kernel), ⟨by decide +kernel, by decide +kernel⟩, by decide +kernel, by decide +kernel⟩
theorem qm_RX9_197 : QVir q_P RX9 197 174 := ⟨q_wT5 142 (by decide +kernel) (by decide +kernel), q_wT5 144 (by decide +kernel) (by decide +kernel), q_wS 52 (by decide +kernel) (by decide +kernel)⟩
theorem qc_X9_readsS : QCal q_P 174 0 := ⟨q_wT5 145 (by decide +kernel) (by decide +kernel), q_wT1 10 (by decide +kernel) (by decide +kernel), ⟨by decide +kernel, by decide +kernel⟩, by decide +kernel, by decide +kernel⟩
theorem qm_RX9_200 : QVir q_P RX9 200 175 := ⟨q_wT5 138 (by decide +kernel) (by decide +kernel), q_wT5 140 (by decide +kernel) (by decide +kernel), q_wS 51 (by decide +kernel) (by decide +kernel)⟩
theorem qc_X9_readsB : QCal q_P 175 0 := ⟨q_wT5 141 (by decide +kernel) (by decide +kernel), q_wT1 10 (by decide +kernel) (by decide +kernel), ⟨by decide +kernel, by decide +kernel⟩, by decide +kernel, by decide +kernel⟩
theorem qm_RX9_203 : QVir q_P RX9 203 176 := ⟨q_wT5 134 (by decide +kernel) (by decide +kernel), q_wT5 136 (by decide +kernel) (by decide +kernel), q_wS 50 (by decide +kernel) (by decide +kernel)⟩
theorem qc_X9_readsA : QCal q_P 176 0 := ⟨q_wT5 137 (by decide +kernel) (by decide +kernel), q_wT1 10 (by decide +kernel) (by decide +kernel), ⟨by decide +kernel, by decide +kernel⟩, by decide +kernel, by decide +kernel⟩
theorem qm_RX9_206 : QVir q_P RX9 206 178 := ⟨q_wT5 126 (by decide +kernel) (by decide +kernel), q_wT5 128 (by decide +kernel) (by decide +kernel), q_wS 48 (by decide +kernel) (by decide +kernel)⟩
theorem qc_X9_readsLine : QCal q_P 178 0 := ⟨q_wT5 129 (by decide +kernel) (by decide +kernel), q_wT1 10 (by decide +kernel) (by decide +kernel), ⟨by decide +kernel, by decide +kernel⟩, by decide +kernel, by decide +kernel⟩
theorem ql_RX9_209_g : Cond.fieldLink RX9 209 (TX9 5).1 (TX9 5).2.1 (TX9 5).2.2.1 ∈ q_GW := q_wT4 134 (by decide +kernel) (by decide +kernel)
theorem ql_RX9_209 : q_lnk RX9 209 TX9 5 := Or.inl ql_RX9_209_g
theorem qf_9_5 : q_fi 9 5 = true := by decide +kernel
theorem ql_RX9_212_g : Cond.fieldLink RX9 212 (TX9 8).1 (TX9 8).2.1 (TX9 8).2.2.1 ∈ q_GW := q_wT4 137 (by decide +kernel) (by decide +kernel)
theorem ql_RX9_212 : q_lnk RX9 212 TX9 8 := Or.inl ql_RX9_212_g
theorem qf_9_8 : q_fi 9 8 = true := by decide +kernel
theorem qm_RX9_215 : QVir q_P RX9 215 180 := ⟨q_wT6 2 (by decide +kernel) (by decide +kernel), q_wT6 4 (by decide +kernel) (by decide +kernel), q_wS 76 (by decide +kernel) (by decide +kernel)⟩
theorem qc_X9_seen : QCal q_P 180 0 := ⟨q_wT6 5 (by decide +kernel) (by decide +kernel), q_wT1 10 (by decide +kernel) (by decide +kernel), ⟨by decide +kernel, by decide +kernel⟩, by decide +kernel, by decide +kernel⟩
theorem qm_RX9_218 : QVir q_P RX9 218 183 := ⟨q_wT5 238 (by decide +kernel) (by decide +kernel), q_wT6 0 (by decide +kernel) (by decide +kernel), q_wS 75 (by decide +kernel) (by decide +kernel)⟩
theorem qc_X9_takesO : QCal q_P 183 0 := ⟨q_wT6 1 (by decide +kernel) (by decide +kernel), q_wT1 10 (by decide +kernel) (by decide +kernel), ⟨by decide +kernel, by decide +kernel⟩, by decide +kernel, by decide +kernel⟩
theorem qm_RX9_221 : QVir q_P RX9 221 182 := ⟨q_wT6 6 (by decide +kernel) (by decide +kernel), q_wT6 8 (by decide +kernel) (by decide +kernel), q_wS 77 (by decide +kernel) (by decide +kernel)⟩
theorem qc_X9_one : QCal q_P 182 1 := ⟨q_wT6 9 (by decide +kernel) (by decide +kernel), q_wT1 10 (by decide +kernel) (by decide +kernel), ⟨by decide +kernel, by decide +kernel⟩, by decide +kernel, by decide +kernel⟩
theorem qm_RX9_225 : QVir q_P RX9 225 188 := ⟨q_wT5 218 (by decide +kernel) (by decide +kernel), q_wT5 220 (by decide +kernel) (by decide +kernel), q_wS 70 (by decide +kernel) (by decide +kernel)⟩
theorem qc_X9_takesE : QCal q_P 188 0 := ⟨q_wT5 221 (by decide +kernel) (by decide +kernel), q_wT1 10 (by decide +kernel) (by decide +kernel), ⟨by decide +kernel, by decide +kernel⟩, by decide +kernel, by decide +kernel⟩
theorem qm_RX9_228 : QVir q_P RX9 228 181 := ⟨q_wT6 10 (by decide +kernel) (by decide +kernel), q_wT6 12 (by decide +kernel) (by decide +kernel), q_wS 78 (by decide +kernel) (by decide +kernel)⟩
theorem qc_X9_isSeen : QCal q_P 181 1 := ⟨q_wT6 13 (by decide +kernel) (by decide +kernel), q_wT1 10 (by decide +kernel) (by decide +kernel), ⟨by decide +kernel, by decide +kernel⟩, by decide +kernel, by decide +kernel⟩
theorem qm_RX9_231 : QVir q_P RX9 231 184 := ⟨q_wT5 234 (by decide +kernel) (by decide +kernel), q_wT5 236 (by decide +kernel) (by decide +kernel), q_wS 74 (by decide +kernel) (by decide +kernel)⟩
theorem qc_X9_takesP : QCal q_P 184 0 := ⟨q_wT5 237 (by decide +kernel) (by decide +kernel), q_wT1 10 (by decide +kernel) (by decide +kernel), ⟨by decide +kernel, by decide +kernel⟩, by decide +kernel, by decide +kernel⟩
theorem qm_RX9_234 : QVir q_P RX9 234 185 := ⟨q_wT5 230 (by decide +kernel) (by decide +kernel), q_wT5 232 (by decide +kernel) (by decide +kernel), q_wS 73 (by decide +kernel) (by decide +kernel)⟩
theorem qc_X9_takesS : QCal q_P 185 0 := ⟨q_wT5 233 (by decide +kernel) (by decide +kernel), q_wT1 10 (by decide +kernel) (by decide +kernel), ⟨by decide +kernel, by decide +kernel⟩, by decide +kernel, by decide +kernel⟩
theorem qm_RX9_237 : QVir q_P RX9 237 186 := ⟨q_wT5 226 (by decide +kernel) (by decide +kernel), q_wT5 228 (by decide +kernel) (by decide +kernel), q_wS 72 (by decide +kernel) (by decide +kernel)⟩
theorem qc_X9_takesB : QCal q_P 186 0 := ⟨q_wT5 229 (by decide +kernel) (by decide +kernel), q_wT1 10 (by decide +kernel) (by decide +kernel), ⟨by decide +kernel, by decide +kernel⟩, by decide +kernel, by decide +kernel⟩
theorem qm_RX9_240 : QVir q_P RX9 240 187 := ⟨q_wT5 222 (by decide +kernel) (by decide +kernel), q_wT5 224 (by decide +kernel) (by decide +kernel), q_wS 71 (by decide +kernel) (by decide +kernel)⟩
theorem qc_X9_takesA : QCal q_P 187 0 := ⟨q_wT5 225 (by decide +kernel) (by decide +kernel), q_wT1 10 (by decide +kernel) (by decide +kernel), ⟨by decide +kernel, by decide +kernel⟩, by decide +kernel, by decide +kernel⟩
theorem ql_RX9_243_g : Cond.fieldLink RX9 243 (TX9 30).1 (TX9 30).2.1 (TX9 30).2.2.1 ∈ q_GW := q_wT4 159 (by decide +kernel) (by decide +kernel)
theorem ql_RX9_243 : q_lnk RX9 243 TX9 30 := Or.inl ql_RX9_243_g
theorem qf_9_30 : q_fi 9 30 = true := by decide +kernel
theorem ql_RX9_246_g : Cond.fieldLink RX9 246 (TX9 34).1 (TX9 34).2.1 (TX9 34).2.2.1 ∈ q_GW := q_wT4 163 (by decide +kernel) (by decide +kernel)
theorem ql_RX9_246 : q_lnk RX9 246 TX9 34 := Or.inl ql_RX9_246_g
theorem qf_9_34 : q_fi 9 34 = true := by decide +kernel
theorem qm_RX9_249 : QVir q_P RX9 249 191 := ⟨q_wT5 206 (by decide +kernel) (by decide +kernel), q_wT5 208 (by decide +kernel) (by decide +kernel), q_wS 67 (by decide +kernel) (by decide +kernel)⟩
theorem qc_X9_rungAt : QCal q_P 191 2 := ⟨q_wT5 209 (by decide +kernel) (by decide +kernel), q_wT1 10 (by decide +kernel) (by decide +kernel), ⟨by decide +kernel, by decide +kernel⟩, by decide +kernel, by decide +kernel⟩
theorem ql_RX9_253_g : Cond.fieldLink RX9 253 (TX9 32).1 (TX9 32).2.1 (TX9 32).2.2.1 ∈ q_GW := q_wT4 161 (by decide +kernel) (by decide +kernel)
theorem ql_RX9_253 : q_lnk RX9 253 TX9 32 := Or.inl ql_RX9_253_g
theorem qf_9_32 : q_fi 9 32 = true := by decide +kernel
theorem ql_RX9_256_g : Cond.fieldLink RX9 256 (TX9 33).1 (TX9 33).2.1 (TX9 33).2.2.1 ∈ q_GW := q_wT4 162 (by decide +kernel) (by decide +kernel)
theorem ql_RX9_256 : q_lnk RX9 256 TX9 33 := Or.inl ql_RX9_256_g
theorem qf_9_33 : q_fi 9 33 = true := by decide +kernel
theorem qm_RX9_259 : QVir q_P RX9 259 154 := ⟨q_wT5 198 (by decide +kernel) (by decide +kernel), q_wT5 200 (by decide +kernel) (by decide +kernel), q_wS 65 (by decide +kernel) (by decide +kernel)⟩
theorem qc_X9_has : QCal q_P 154 2 := ⟨q_wT5 201 (by decide +kernel) (by decide +kernel), q_wT1 10 (by decide +kernel) (by decide +kernel), ⟨by decide +kernel, by decide +kernel⟩, by decide +kernel, by decide +kernel⟩
theorem qm_RX9_262 : QVir q_P RX9 262 192 := ⟨q_wT5 202 (by decide +kernel) (by decide +kernel), q_wT5 204 (by decide +kernel) (by decide +kernel), q_wS 66 (by decide +kernel) (by decide +kernel)⟩
theorem qc_X9_signOf : QCal q_P 192 3 := ⟨q_wT5 205 (by decide +kernel) (by decide +kernel), q_wT1 10 (by decide +kernel) (by decide +kernel), ⟨by decide +kernel, by decide +kernel⟩, by decide +kernel, by decide +kernel⟩
theorem qm_RX9_266 : QVir q_P RX9 266 193 := ⟨q_wT5 194 (by decide +kernel) (by decide +kernel), q_wT5 196 (by decide +kernel) (by decide +kernel), q_wS 64 (by decide +kernel) (by decide +kernel)⟩
theorem qc_X9_sign : QCal q_P 193 2 := ⟨q_wT5 197 (by decide +kernel) (by decide +kernel), q_wT1 10 (by decide +kernel) (by decide +kernel), ⟨by decide +kernel, by decide +kernel⟩, by decide +kernel, by decide +kernel⟩
theorem qm_RX9_269 : QVir q_P RX9 269 189 := ⟨q_wT5 214 (by decide +kernel) (by decide +kernel), q_wT5 216 (by decide +kernel) (by decide +kernel), q_wS 69 (by decide +kernel) (by decide +kernel)⟩
theorem qc_X9_given : QCal q_P 189 0 := ⟨q_wT5 217 (by decide +kernel) (by decide +kernel), q_wT1 10 (by decide +kernel) (by decide +kernel), ⟨by decide +kernel, by decide +kernel⟩, by decide +kernel, by decide +kernel⟩
theorem qm_RX9_272 : QVir q_P RX9 272 194 := ⟨q_wT5 190 (by decide +kernel) (by decide +kernel), q_wT5 192 (by decide +kernel) (by decide +kernel), q_wS 63 (by decide +kernel) (by decide +kernel)⟩
theorem qc_X9_counts : QCal q_P 194 1 := ⟨q_wT5 193 (by decide +kernel) (by decide +kernel), q_wT1 10 (by decide +kernel) (by decide +kernel), ⟨by decide +kernel, by decide +kernel⟩, by decide +kernel, by decide +kernel⟩
theorem qm_RX9_276 : QVir q_P RX9 276 195 := ⟨q_wT5 210 (by decide +kernel) (by decide +kernel), q_wT5 212 (by decide +kernel) (by decide +kernel), q_wS 68 (by decide +kernel) (by decide +kernel)⟩
theorem qc_X9_rungNext : QCal q_P 195 2 := ⟨q_wT5 213 (by decide +kernel) (by decide +kernel), q_wT1 10 (by decide +kernel) (by decide +kernel), ⟨by decide +kernel, by decide +kernel⟩, by decide +kernel, by decide +kernel⟩
theorem qm_RX9_279 : QVir q_P RX9 279 190 := ⟨q_wT5 182 (by decide +kernel) (by decide +kernel), q_wT5 184 (by decide +kernel) (by decide +kernel), q_wS 61 (by decide +kernel) (by decide +kernel)⟩
theorem qc_X9_plain : QCal q_P 190 0 := ⟨q_wT5 185 (by decide +kernel) (by decide +kernel), q_wT1 10 (by decide +kernel) (by decide +kernel), ⟨by decide +kernel, by decide +kernel⟩, by decide +kernel, by decide +kernel⟩
theorem qm_RX9_282 : QVir q_P RX9 282 196 := ⟨q_wT5 186 (by decide +kernel) (by decide +kernel), q_wT5 188 (by decide +kernel) (by decide +kernel), q_wS 62 (by decide +kernel) (by decide +kernel)⟩
theorem qc_X9_goes : QCal q_P 196 1 := ⟨q_wT5 189 (by decide +kernel) (by decide +kernel), q_wT1 10 (by decide +kernel) (by decide +kernel), ⟨by decide +kernel, by decide +kernel⟩, by decide +kernel, by decide +kernel⟩
theorem qm_RX9_285 : QVir q_P RX9 285 153 := ⟨q_wT5 174 (by decide +kernel) (by decide +kernel), q_wT5 176 (by decide +kernel) (by decide +kernel), q_wS 59 (by decide +kernel) (by decide +kernel)⟩
theorem qc_X9_isMinute : QCal q_P 153 1 := ⟨q_wT5 177 (by decide +kernel) (by decide +kernel), q_wT1 10 (by decide +kernel) (by decide +kernel), ⟨by decide +kernel, by decide +kernel⟩, by decide +kernel, by decide +kernel⟩
theorem qm_RX9_288 : QVir q_P RX9 288 197 := ⟨q_wT5 178 (by decide +kernel) (by decide +kernel), q_wT5 180 (by decide +kernel) (by decide +kernel), q_wS 60 (by decide +kernel) (by decide +kernel)⟩
theorem qc_X9_goesPlain : QCal q_P 197 1 := ⟨q_wT5 181 (by decide +kernel) (by decide +kernel), q_wT1 10 (by decide +kernel) (by decide +kernel), ⟨by decide +kernel, by decide +kernel⟩, by decide +kernel, by decide +kernel⟩
theorem qm_RX9_291 : QVir q_P RX9 291 201 := ⟨q_wT6 26 (by decide +kernel) (by decide +kernel), q_wT6 28 (by decide +kernel) (by decide +kernel), q_wS 79 (by decide +kernel) (by decide +kernel)⟩
theorem qc_X9_isAgain : QCal q_P 201 2 := ⟨q_wT6 29 (by decide +kernel) (by decide +kernel), q_wT1 10 (by decide +kernel) (by decide +kernel), ⟨by decide +kernel, by decide +kernel⟩, by decide +kernel, by decide +kernel⟩
theorem qm_RX9_294 : QVir q_P RX9 294 203 := ⟨q_wT6 34 (by decide +kernel) (by decide +kernel), q_wT6 36 (by decide +kernel) (by decide +kernel), q_wS 80 (by decide +kernel) (by decide +kernel)⟩
theorem qc_X9_end : QCal q_P 203 0 := ⟨q_wT6 37 (by decide +kernel) (by decide +kernel), q_wT1 10 (by decide +kernel) (by decide +kernel), ⟨by decide +kernel, by decide +kernel⟩, by decide +kernel, by decide +kernel⟩
theorem qm_RX9_297 : QVir q_P RX9 297 204 := ⟨q_wT6 38 (by decide +kernel) (by decide +kernel), q_wT6 40 (by decide +kernel) (by decide +kernel), q_wS 81 (by decide +kernel) (by decide +kernel)⟩
theorem qc_X9_endOr : QCal q_P 204 1 := ⟨q_wT6 41 (by decide +kernel) (by decide +kernel), q_wT1 10 (by decide +kernel) (by decide +kernel), ⟨by decide +kernel, by decide +kernel⟩, by decide +kernel, by decide +kernel⟩
theorem qm_RX9_300 : QVir q_P RX9 300 207 := ⟨q_wT6 50 (by decide +kernel) (by decide +kernel), q_wT6 52 (by decide +kernel) (by decide +kernel), q_wS 82 (by decide +kernel) (by decide +kernel)⟩
theorem qc_X9_barsOf : QCal q_P 207 1 := ⟨q_wT6 53 (by decide +kernel) (by decide +kernel), q_wT1 10 (by decide +kernel) (by decide +kernel), ⟨by decide +kernel, by decide +kernel⟩, by decide +kernel, by decide +kernel⟩
theorem qm_RX9_303 : QVir q_P RX9 303 209 := ⟨q_wT6 58 (by decide +kernel) (by decide +kernel), q_wT6 60 (by decide +kernel) (by decide +kernel), q_wS 83 (by decide +kernel) (by decide +kernel)⟩
theorem qc_X9_endWithout : QCal q_P 209 1 := ⟨q_wT6 61 (by decide +kernel) (by decide +kernel), q_wT1 10 (by decide +kernel) (by decide +kernel), ⟨by decide +kernel, by decide +kernel⟩, by decide +kernel, by decide +kernel⟩
theorem qm_RX9_306 : QVir q_P RX9 306 211 := ⟨q_wT6 66 (by decide +kernel) (by decide +kernel), q_wT6 68 (by decide +kernel) (by decide +kernel), q_wS 84 (by decide +kernel) (by decide +kernel)⟩
theorem qc_X9_ones : QCal q_P 211 1 := ⟨q_wT6 69 (by decide +kernel) (by decide +kernel), q_wT1 10 (by decide +kernel) (by decide +kernel), ⟨by decide +kernel, by decide +kernel⟩, by decide +kernel, by decide +kernel⟩
theorem qm_RX9_309 : QVir q_P RX9 309 213 := ⟨q_wT6 74 (by decide +kernel) (by decide +kernel), q_wT6 76 (by decide +kernel) (by decide +kernel), q_wS 85 (by decide +kernel) (by decide +kernel)⟩
theorem qc_X9_keepsDay : QCal q_P 213 0 := ⟨q_wT6 77 (by decide +kernel) (by decide +kernel), q_wT1 10 (by decide +kernel) (by decide +kernel), ⟨by decide +kernel, by decide +kernel⟩, by decide +kernel, by decide +kernel⟩
theorem qm_RX9_312 : QVir q_P RX9 312 217 := ⟨q_wT6 86 (by decide +kernel) (by decide +kernel), q_wT6 88 (by decide +kernel) (by decide +kernel), q_wS 86 (by decide +kernel) (by decide +kernel)⟩
theorem qc_X9_isChurch : QCal q_P 217 1 := ⟨q_wT6 89 (by decide +kernel) (by decide +kernel), q_wT1 10 (by decide +kernel) (by decide +kernel), ⟨by decide +kernel, by decide +kernel⟩, by decide +kernel, by decide +kernel⟩
theorem qm_RX9_315 : QVir q_P RX9 315 216 := ⟨q_wT6 90 (by decide +kernel) (by decide +kernel), q_wT6 92 (by decide +kernel) (by decide +kernel), q_wS 87 (by decide +kernel) (by decide +kernel)⟩
theorem qc_X9_goesBoth : QCal q_P 216 2 := ⟨q_wT6 93 (by decide +kernel) (by decide +kernel), q_wT1 10 (by decide +kernel) (by decide +kernel), ⟨by decide +kernel, by decide +kernel⟩, by decide +kernel, by decide +kernel⟩
theorem qm_RX9_319 : QVir q_P RX9 319 221 := ⟨q_wT6 102 (by decide +kernel) (by decide +kernel), q_wT6 104 (by decide +kernel) (by decide +kernel), q_wS 88 (by decide +kernel) (by decide +kernel)⟩
theorem qc_X9_barsFor : QCal q_P 221 2 := ⟨q_wT6 105 (by decide +kernel) (by decide +kernel), q_wT1 10 (by decide +kernel) (by decide +kernel), ⟨by decide +kernel, by decide +kernel⟩, by decide +kernel, by decide +kernel⟩
theorem qm_RX9_322 : QVir q_P RX9 322 220 := ⟨q_wT6 106 (by decide +kernel) (by decide +kernel), q_wT6 108 (by decide +kernel) (by decide +kernel), q_wS 89 (by decide +kernel) (by decide +kernel)⟩
theorem qc_X9_unlike : QCal q_P 220 2 := ⟨q_wT6 109 (by decide +kernel) (by decide +kernel), q_wT1 10 (by decide +kernel) (by decide +kernel), ⟨by decide +kernel, by decide +kernel⟩, by decide +kernel, by decide +kernel⟩
theorem qm_RX9_325 : QVir q_P RX9 325 226 := ⟨q_wT6 126 (by decide +kernel) (by decide +kernel), q_wT6 128 (by decide +kernel) (by decide +kernel), q_wS 90 (by decide +kernel) (by decide +kernel)⟩
theorem qc_X9_unlikeRung : QCal q_P 226 2 := ⟨q_wT6 129 (by decide +kernel) (by decide +kernel), q_wT1 10 (by decide +kernel) (by decide +kernel), ⟨by decide +kernel, by decide +kernel⟩, by decide +kernel, by decide +kernel⟩
theorem ql_RX9_329_g : Cond.fieldLink RX9 329 (TX9 38).1 (TX9 38).2.1 (TX9 38).2.2.1 ∈ q_GW := q_wT4 167 (by decide +kernel) (by decide +kernel)
theorem ql_RX9_329 : q_lnk RX9 329 TX9 38 := Or.inl ql_RX9_329_g
theorem qf_9_38 : q_fi 9 38 = true := by decide +kernel
theorem ql_RX9_332_g : Cond.fieldLink RX9 332 (TX9 39).1 (TX9 39).2.1 (TX9 39).2.2.1 ∈ q_GW := q_wT4 168 (by decide +kernel) (by decide +kernel)
theorem ql_RX9_332 : q_lnk RX9 332 TX9 39 := Or.inl ql_RX9_332_g
theorem qf_9_39 : q_fi 9 39 = true := by decide +kernel
theorem ql_RX9_335_g : Cond.fieldLink RX9 335 (TX9 40).1 (TX9 40).2.1 (TX9 40).2.2.1 ∈ q_GW := q_wT4 169 (by decide +kernel) (by decide +kernel)
theorem ql_RX9_335 : q_lnk RX9 335 TX9 40 := Or.inl ql_RX9_335_g
theorem qf_9_40 : q_fi 9 40 = true := by decide +kernel
theorem ql_RX9_338_g : Cond.fieldLink RX9 338 (TX9 41).1 (TX9 41).2.1 (TX9 41).2.2.1 ∈ q_GW := q_wT4 170 (by decide +kernel) (by decide +kernel)
theorem ql_RX9_338 : q_lnk RX9 338 TX9 41 := Or.inl ql_RX9_338_g
theorem qf_9_41 : q_fi 9 41 = true := by decide +kernel
theorem ql_RX9_341_g : Cond.fieldLink RX9 341 (TX9 44).1 (TX9 44).2.1 (TX9 44).2.2.1 ∈ q_GW := q_wT4 173 (by decide +kernel) (by decide +kernel)
theorem ql_RX9_341 : q_lnk RX9 341 TX9 44 := Or.inl ql_RX9_341_g
theorem qf_9_44 : q_fi 9 44 = true := by decide +kernel
theorem ql_RX9_344_g : Cond.fieldLink RX9 344 (TX9 7).1 (TX9 7).2.1 (TX9 7).2.2.1 ∈ q_GW := q_wT4 136 (by decide +kernel) (by decide +kernel)
theorem ql_RX9_344 : q_lnk RX9 344 TX9 7 := Or.inl ql_RX9_344_g
theorem qf_9_7 : q_fi 9 7 = true := by decide +kernel
theorem ql_RX9_347_g : Cond.fieldLink RX9 347 (TX9 6).1 (TX9 6).2.1 (TX9 6).2.2.1 ∈ q_GW := q_wT4 135 (by decide +kernel) (by decide +kernel)
theorem ql_RX9_347 : q_lnk RX9 347 TX9 6 := Or.inl ql_RX9_347_g
theorem qf_9_6 : q_fi 9 6 = true := by decide +kernel
theorem qm_RX9_350 : QVir q_P RX9 350 238 := ⟨q_wT6 175 (by decide +kernel) (by decide +kernel), q_wT6 177 (by decide +kernel) (by decide +kernel), q_wS 92 (by decide +kernel) (by decide +kernel)⟩
theorem qc_X9_runs : QCal q_P 238 1 := ⟨q_wT6 178 (by decide +kernel) (by decide +kernel), q_wT1 10 (by decide +kernel) (by decide +kernel), ⟨by decide +kernel, by decide +kernel⟩, by decide +kernel, by decide +kernel⟩
theorem qm_RX9_353 : QVir q_P RX9 353 239 := ⟨q_wT6 179 (by decide +kernel) (by decide +kernel), q_wT6 181 (by decide +kernel) (by decide +kernel), q_wS 93 (by decide +kernel) (by decide +kernel)⟩
theorem qc_X9_above : QCal q_P 239 1 := ⟨q_wT6 182 (by decide +kernel) (by decide +kernel), q_wT1 10 (by decide +kernel) (by decide +kernel), ⟨by decide +kernel, by decide +kernel⟩, by decide +kernel, by decide +kernel⟩
theorem qm_RX9_356 : QVir q_P RX9 356 240 := ⟨q_wT6 171 (by decide +kernel) (by decide +kernel), q_wT6 173 (by decide +kernel) (by decide +kernel), q_wS 91 (by decide +kernel) (by decide +kernel)⟩
theorem qc_X9_rings : QCal q_P 240 3 := ⟨q_wT6 174 (by decide +kernel) (by decide +kernel), q_wT1 10 (by decide +kernel) (by decide +kernel), ⟨by decide +kernel, by decide +kernel⟩, by decide +kernel, by decide +kernel⟩
theorem qm_RX9_359 : QVir q_P RX9 359 241 := ⟨q_wT6 183 (by decide +kernel) (by decide +kernel), q_wT6 185 (by decide +kernel) (by decide +kernel), q_wS 94 (by decide +kernel) (by decide +kernel)⟩
theorem qc_X9_hears : QCal q_P 241 3 := ⟨q_wT6 186 (by decide +kernel) (by decide +kernel), q_wT1 10 (by decide +kernel) (by decide +kernel), ⟨by decide +kernel, by decide +kernel⟩, by decide +kernel, by decide +kernel⟩
theorem qm_RX9_362 : QVir q_P RX9 362 242 := ⟨q_wT6 187 (by decide +kernel) (by decide +kernel), q_wT6 189 (by decide +kernel) (by decide +kernel), q_wS 95 (by decide +kernel) (by decide +kernel)⟩
theorem qc_X9_doing : QCal q_P 242 3 := ⟨q_wT6 190 (by decide +kernel) (by decide +kernel), q_wT1 10 (by decide +kernel) (by decide +kernel), ⟨by decide +kernel, by decide +kernel⟩, by decide +kernel, by decide +kernel⟩
theorem qm_RX9_365 : QVir q_P RX9 365 243 := ⟨q_wT6 191 (by decide +kernel) (by decide +kernel), q_wT6 193 (by decide +kernel) (by decide +kernel), q_wS 96 (by decide +kernel) (by decide +kernel)⟩
theorem qc_X9_tells : QCal q_P 243 3 := ⟨q_wT6 194 (by decide +kernel) (by decide +kernel), q_wT1 10 (by decide +kernel) (by decide +kernel), ⟨by decide +kernel, by decide +kernel⟩, by decide +kernel, by decide +kernel⟩
theorem qm_RX9_368 : QVir q_P RX9 368 250 := ⟨q_wT6 211 (by decide +kernel) (by decide +kernel), q_wT6 213 (by decide +kernel) (by decide +kernel), q_wS 97 (by decide +kernel) (by decide +kernel)⟩
theorem qc_X9_barsOfRow : QCal q_P 250 1 := ⟨q_wT6 214 (by decide +kernel) (by decide +kernel), q_wT1 10 (by decide +kernel) (by decide +kernel), ⟨by decide +kernel, by decide +kernel⟩, by decide +kernel, by decide +kernel⟩
theorem qm_RX9_371 : QVir q_P RX9 371 251 := ⟨q_wT6 215 (by decide +kernel) (by decide +kernel), q_wT6 217 (by decide +kernel) (by decide +kernel), q_wS 98 (by decide +kernel) (by decide +kernel)⟩
theorem qc_X9_isElement : QCal q_P 251 2 := ⟨q_wT6 218 (by decide +kernel) (by decide +kernel), q_wT1 10 (by decide +kernel) (by decide +kernel), ⟨by decide +kernel, by decide +kernel⟩, by decide +kernel, by decide +kernel⟩
theorem qm_RL_9 : QIni q_P RL 9 81 := ⟨Or.inl (q_wT1 16 (by decide +kernel) (by decide +kernel)), q_wT1 17 (by decide +kernel) (by decide +kernel), by decide +kernel, by decide +kernel⟩
theorem qc_X8_init : QCal q_P 81 0 := ⟨q_wT1 18 (by decide +kernel) (by decide +kernel), q_wT1 1 (by decide +kernel) (by decide +kernel), ⟨by decide +kernel, by decide +kernel⟩, by decide +kernel, by decide +kernel⟩
theorem qm_RL_12 : QIni q_P RL 12 150 := ⟨Or.inl (q_wT4 125 (by decide +kernel) (by decide +kernel)), q_wT4 126 (by decide +kernel) (by decide +kernel), by decide +kernel, by decide +kernel⟩
theorem qc_X9_init : QCal q_P 150 0 := ⟨q_wT4 127 (by decide +kernel) (by decide +kernel), q_wT1 10 (by decide +kernel) (by decide +kernel), ⟨by decide +kernel, by decide +kernel⟩, by decide +kernel, by decide +kernel⟩
theorem qm_RL_13 : QVir q_P RL 13 82 := ⟨q_wT2 24 (by decide +kernel) (by decide +kernel), q_wT2 25 (by decide +kernel) (by decide +kernel), q_wT2 26 (by decide +kernel) (by decide +kernel)⟩
theorem qc_X8_farm : QCal q_P 82 2 := ⟨q_wT2 27 (by decide +kernel) (by decide +kernel), q_wT1 1 (by decide +kernel) (by decide +kernel), ⟨by decide +kernel, by decide +kernel⟩, by decide +kernel, by decide +kernel⟩
theorem qm_RL_17 : QVir q_P RL 17 155 := ⟨q_wT5 50 (by decide +kernel) (by decide +kernel), q_wT5 51 (by decide +kernel) (by decide +kernel), q_wT5 52 (by decide +kernel) (by decide +kernel)⟩
theorem qc_X9_farm : QCal q_P 155 2 := ⟨q_wT5 53 (by decide +kernel) (by decide +kernel), q_wT1 10 (by decide +kernel) (by decide +kernel), ⟨by decide +kernel, by decide +kernel⟩, by decide +kernel, by decide +kernel⟩
theorem qm_RL_18 : QVir q_P RL 18 83 := ⟨q_wT2 37 (by decide +kernel) (by decide +kernel), q_wT2 38 (by decide +kernel) (by decide +kernel), q_wT2 39 (by decide +kernel) (by decide +kernel)⟩
theorem qc_X8_farms : QCal q_P 83 3 := ⟨q_wT2 40 (by decide +kernel) (by decide +kernel), q_wT1 1 (by decide +kernel) (by decide +kernel), ⟨by decide +kernel, by decide +kernel⟩, by decide +kernel, by decide +kernel⟩
theorem qm_RL_22 : QVir q_P RL 22 157 := ⟨q_wT5 62 (by decide +kernel) (by decide +kernel), q_wT5 63 (by decide +kernel) (by decide +kernel), q_wT5 64 (by decide +kernel) (by decide +kernel)⟩
theorem qc_X9_farms : QCal q_P 157 3 := ⟨q_wT5 65 (by decide +kernel) (by decide +kernel), q_wT1 10 (by decide +kernel) (by decide +kernel), ⟨by decide +kernel, by decide +kernel⟩, by decide +kernel, by decide +kernel⟩
theorem qm_RL_23 : QVir q_P RL 23 84 := ⟨q_wT2 66 (by decide +kernel) (by decide +kernel), q_wT2 67 (by decide +kernel) (by decide +kernel), q_wT2 68 (by decide +kernel) (by decide +kernel)⟩
theorem qc_X8_mend : QCal q_P 84 3 := ⟨q_wT2 69 (by decide +kernel) (by decide +kernel), q_wT1 1 (by decide +kernel) (by decide +kernel), ⟨by decide +kernel, by decide +kernel⟩, by decide +kernel, by decide +kernel⟩
theorem qm_RL_26 : QVir q_P RL 26 163 := ⟨q_wT5 74 (by decide +kernel) (by decide +kernel), q_wT5 75 (by decide +kernel) (by decide +kernel), q_wT5 76 (by decide +kernel) (by decide +kernel)⟩
theorem qc_X9_mend : QCal q_P 163 3 := ⟨q_wT5 77 (by decide +kernel) (by decide +kernel), q_wT1 10 (by decide +kernel) (by decide +kernel), ⟨by decide +kernel, by decide +kernel⟩, by decide +kernel, by decide +kernel⟩
theorem qm_RL_27 : QVir q_P RL 27 85 := ⟨q_wT2 90 (by decide +kernel) (by decide +kernel), q_wT2 91 (by decide +kernel) (by decide +kernel), q_wT2 92 (by decide +kernel) (by decide +kernel)⟩
theorem qc_X8_of : QCal q_P 85 2 := ⟨q_wT2 93 (by decide +kernel) (by decide +kernel), q_wT1 1 (by decide +kernel) (by decide +kernel), ⟨by decide +kernel, by decide +kernel⟩, by decide +kernel, by decide +kernel⟩
theorem qm_RL_30 : QVir q_P RL 30 166 := ⟨q_wT5 110 (by decide +kernel) (by decide +kernel), q_wT5 111 (by decide +kernel) (by decide +kernel), q_wT5 112 (by decide +kernel) (by decide +kernel)⟩
theorem qc_X9_of : QCal q_P 166 2 := ⟨q_wT5 113 (by decide +kernel) (by decide +kernel), q_wT1 10 (by decide +kernel) (by decide +kernel), ⟨by decide +kernel, by decide +kernel⟩, by decide +kernel, by decide +kernel⟩
theorem qm_RL_31 : QVir q_P RL 31 86 := ⟨q_wT2 107 (by decide +kernel) (by decide +kernel), q_wT2 108 (by decide +kernel) (by decide +kernel), q_wT2 109 (by decide +kernel) (by decide +kernel)⟩
theorem qc_X8_feed : QCal q_P 86 1 := ⟨q_wT2 110 (by decide +kernel) (by decide +kernel), q_wT1 1 (by decide +kernel) (by decide +kernel), ⟨by decide +kernel, by decide +kernel⟩, by decide +kernel, by decide +kernel⟩
theorem qm_RL_35 : QVir q_P RL 35 167 := ⟨q_wT5 118 (by decide +kernel) (by decide +kernel), q_wT5 119 (by decide +kernel) (by decide +kernel), q_wT5 120 (by decide +kernel) (by decide +kernel)⟩
theorem qc_X9_feed : QCal q_P 167 1 := ⟨q_wT5 121 (by decide +kernel) (by decide +kernel), q_wT1 10 (by decide +kernel) (by decide +kernel), ⟨by decide +kernel, by decide +kernel⟩, by decide +kernel, by decide +kernel⟩
theorem qm_RL_36 : QVir q_P RL 36 87 := ⟨q_wT2 115 (by decide +kernel) (by decide +kernel), q_wT2 116 (by decide +kernel) (by decide +kernel), q_wT2 117 (by decide +kernel) (by decide +kernel)⟩
theorem qc_X8_law : QCal q_P 87 0 := ⟨q_wT2 118 (by decide +kernel) (by decide +kernel), q_wT1 1 (by decide +kernel) (by decide +kernel), ⟨by decide +kernel, by decide +kernel⟩, by decide +kernel, by decide +kernel⟩
theorem qm_RL_40 : QVir q_P RL 40 179 := ⟨q_wT5 122 (by decide +kernel) (by decide +kernel), q_wT5 123 (by decide +kernel) (by decide +kernel), q_wT5 124 (by decide +kernel) (by decide +kernel)⟩
theorem qc_X9_law : QCal q_P 179 0 := ⟨q_wT5 125 (by decide +kernel) (by decide +kernel), q_wT1 10 (by decide +kernel) (by decide +kernel), ⟨by decide +kernel, by decide +kernel⟩, by decide +kernel, by decide +kernel⟩
theorem qm_RL_41 : QVir q_P RL 41 88 := ⟨q_wT2 165 (by decide +kernel) (by decide +kernel), q_wT2 166 (by decide +kernel) (by decide +kernel), q_wT2 167 (by decide +kernel) (by decide +kernel)⟩
theorem qc_X8_rung : QCal q_P 88 1 := ⟨q_wT2 168 (by decide +kernel) (by decide +kernel), q_wT1 1 (by decide +kernel) (by decide +kernel), ⟨by decide +kernel, by decide +kernel⟩, by decide +kernel, by decide +kernel⟩
theorem qm_RL_44 : QVir q_P RL 44 198 := ⟨q_wT5 170 (by decide +kernel) (by decide +kernel), q_wT5 171 (by decide +kernel) (by decide +kernel), q_wT5 172 (by decide +kernel) (by decide +kernel)⟩
theorem qc_X9_rung : QCal q_P 198 1 := ⟨q_wT5 173 (by decide +kernel) (by decide +kernel), q_wT1 10 (by decide +kernel) (by decide +kernel), ⟨by decide +kernel, by decide +kernel⟩, by decide +kernel, by decide +kernel⟩
theorem qm_RL_45 : QVir q_P RL 45 89 := ⟨q_wT3 3 (by decide +kernel) (by decide +kernel), q_wT3 4 (by decide +kernel) (by decide +kernel), q_wT3 5 (by decide +kernel) (by decide +kernel)⟩
theorem qc_X8_does : QCal q_P 89 2 := ⟨q_wT3 6 (by decide +kernel) (by decide +kernel), q_wT1 1 (by decide +kernel) (by decide +kernel), ⟨by decide +kernel, by decide +kernel⟩, by decide +kernel, by decide +kernel⟩
theorem qm_RL_48 : QVir q_P RL 48 199 := ⟨q_wT6 14 (by decide +kernel) (by decide +kernel), q_wT6 15 (by decide +kernel) (by decide +kernel), q_wT6 16 (by decide +kernel) (by decide +kernel)⟩
theorem qc_X9_does : QCal q_P 199 2 := ⟨q_wT6 17 (by decide +kernel) (by decide +kernel), q_wT1 10 (by decide +kernel) (by decide +kernel), ⟨by decide +kernel, by decide +kernel⟩, by decide +kernel, by decide +kernel⟩
theorem qm_RL_49 : QVir q_P RL 49 90 := ⟨q_wT3 8 (by decide +kernel) (by decide +kernel), q_wT3 9 (by decide +kernel) (by decide +kernel), q_wT3 10 (by decide +kernel) (by decide +kernel)⟩
theorem qc_X8_signs : QCal q_P 90 2 := ⟨q_wT3 11 (by decide +kernel) (by decide +kernel), q_wT1 1 (by decide +kernel) (by decide +kernel), ⟨by decide +kernel, by decide +kernel⟩, by decide +kernel, by decide +kernel⟩
theorem qm_RL_52 : QVir q_P RL 52 200 := ⟨q_wT6 18 (by decide +kernel) (by decide +kernel), q_wT6 19 (by decide +kernel) (by decide +kernel), q_wT6 20 (by decide +kernel) (by decide +kernel)⟩
theorem qc_X9_signs : QCal q_P 200 2 := ⟨q_wT6 21 (by decide +kernel) (by decide +kernel), q_wT1 10 (by decide +kernel) (by decide +kernel), ⟨by decide +kernel, by decide +kernel⟩, by decide +kernel, by decide +kernel⟩
theorem qm_RL_53 : QVir q_P RL 53 91 := ⟨q_wT3 12 (by decide +kernel) (by decide +kernel), q_wT3 13 (by decide +kernel) (by decide +kernel), q_wT3 14 (by decide +kernel) (by decide +kernel)⟩
theorem qc_X8_round : QCal q_P 91 1 := ⟨q_wT3 15 (by decide +kernel) (by decide +kernel), q_wT1 1 (by decide +kernel) (by decide +kernel), ⟨by decide +kernel, by decide +kernel⟩, by decide +kernel, by decide +kernel⟩
theorem qm_RL_56 : QVir q_P RL 56 202 := ⟨q_wT6 22 (by decide +kernel) (by decide +kernel), q_wT6 23 (by decide +kernel) (by decide +kernel), q_wT6 24 (by decide +kernel) (by decide +kernel)⟩
theorem qc_X9_round : QCal q_P 202 1 := ⟨q_wT6 25 (by decide +kernel) (by decide +kernel), q_wT1 10 (by decide +kernel) (by decide +kernel), ⟨by decide +kernel, by decide +kernel⟩, by decide +kernel, by decide +kernel⟩
theorem qm_RL_57 : QVir q_P RL 57 92 := ⟨q_wT3 20 (by decide +kernel) (by decide +kernel), q_wT3 21 (by decide +kernel) (by decide +kernel), q_wT3 22 (by decide +kernel) (by decide +kernel)⟩
theorem qc_X8_ends : QCal q_P 92 0 := ⟨q_wT3 23 (by decide +kernel) (by decide +kernel), q_wT1 1 (by decide +kernel) (by decide +kernel), ⟨by decide +kernel, by decide +kernel⟩, by decide +kernel, by decide +kernel⟩
theorem qm_RL_60 : QVir q_P RL 60 205 := ⟨q_wT6 30 (by decide +kernel) (by decide +kernel), q_wT6 31 (by decide +kernel) (by decide +kernel), q_wT6 32 (by decide +kernel) (by decide +kernel)⟩
theorem qc_X9_ends : QCal q_P 205 0 := ⟨q_wT6 33 (by decide +kernel) (by decide +kernel), q_wT1 10 (by decide +kernel) (by decide +kernel), ⟨by decide +kernel, by decide +kernel⟩, by decide +kernel, by decide +kernel⟩
theorem qm_RL_61 : QVir q_P RL 61 93 := ⟨q_wT3 28 (by decide +kernel) (by decide +kernel), q_wT3 29 (by decide +kernel) (by decide +kernel), q_wT3 30 (by decide +kernel) (by decide +kernel)⟩
theorem qc_X8_often : QCal q_P 93 3 := ⟨q_wT3 31 (by decide +kernel) (by decide +kernel), q_wT1 1 (by decide +kernel) (by decide +kernel), ⟨by decide +kernel, by decide +kernel⟩, by decide +kernel, by decide +kernel⟩
theorem qm_RL_64 : QVir q_P RL 64 206 := ⟨q_wT6 42 (by decide +kernel) (by decide +kernel), q_wT6 43 (by decide +kernel) (by decide +kernel), q_wT6 44 (by decide +kernel) (by decide +kernel)⟩
theorem qc_X9_often : QCal q_P 206 3 := ⟨q_wT6 45 (by decide +kernel) (by decide +kernel), q_wT1 10 (by decide +kernel) (by decide +kernel), ⟨by decide +kernel, by decide +kernel⟩, by decide +kernel, by decide +kernel⟩
theorem qm_RL_65 : QVir q_P RL 65 94 := ⟨q_wT3 41 (by decide +kernel) (by decide +kernel), q_wT3 42 (by decide +kernel) (by decide +kernel), q_wT3 43 (by decide +kernel) (by decide +kernel)⟩
theorem qc_X8_late : QCal q_P 94 3 := ⟨q_wT3 44 (by decide +kernel) (by decide +kernel), q_wT1 1 (by decide +kernel) (by decide +kernel), ⟨by decide +kernel, by decide +kernel⟩, by decide +kernel, by decide +kernel⟩
theorem qm_RL_68 : QVir q_P RL 68 208 := ⟨q_wT6 46 (by decide +kernel) (by decide +kernel), q_wT6 47 (by decide +kernel) (by decide +kernel), q_wT6 48 (by decide +kernel) (by decide +kernel)⟩
theorem qc_X9_late : QCal q_P 208 3 := ⟨q_wT6 49 (by decide +kernel) (by decide +kernel), q_wT1 10 (by decide +kernel) (by decide +kernel), ⟨by decide +kernel, by decide +kernel⟩, by decide +kernel, by decide +kernel⟩
theorem qm_RL_69 : QVir q_P RL 69 95 := ⟨q_wT3 50 (by decide +kernel) (by decide +kernel), q_wT3 51 (by decide +kernel) (by decide +kernel), q_wT3 52 (by decide +kernel) (by decide +kernel)⟩
theorem qc_X8_spare : QCal q_P 95 1 := ⟨q_wT3 53 (by decide +kernel) (by decide +kernel), q_wT1 1 (by decide +kernel) (by decide +kernel), ⟨by decide +kernel, by decide +kernel⟩, by decide +kernel, by decide +kernel⟩
theorem qm_RL_72 : QVir q_P RL 72 210 := ⟨q_wT6 54 (by decide +kernel) (by decide +kernel), q_wT6 55 (by decide +kernel) (by decide +kernel), q_wT6 56 (by decide +kernel) (by decide +kernel)⟩
theorem qc_X9_spare : QCal q_P 210 1 := ⟨q_wT6 57 (by decide +kernel) (by decide +kernel), q_wT1 10 (by decide +kernel) (by decide +kernel), ⟨by decide +kernel, by decide +kernel⟩, by decide +kernel, by decide +kernel⟩
theorem qm_RL_73 : QVir q_P RL 73 96 := ⟨q_wT3 63 (by decide +kernel) (by decide +kernel), q_wT3 64 (by decide +kernel) (by decide +kernel), q_wT3 65 (by decide +kernel) (by decide +kernel)⟩
theorem qc_X8_send : QCal q_P 96 2 := ⟨q_wT3 66 (by decide +kernel) (by decide +kernel), q_wT1 1 (by decide +kernel) (by decide +kernel), ⟨by decide +kernel, by decide +kernel⟩, by decide +kernel, by decide +kernel⟩
theorem qm_RL_76 : QVir q_P RL 76 212 := ⟨q_wT6 62 (by decide +kernel) (by decide +kernel), q_wT6 63 (by decide +kernel) (by decide +kernel), q_wT6 64 (by decide +kernel) (by decide +kernel)⟩
theorem qc_X9_send : QCal q_P 212 2 := ⟨q_wT6 65 (by decide +kernel) (by decide +kernel), q_wT1 10 (by decide +kernel) (by decide +kernel), ⟨by decide +kernel, by decide +kernel⟩, by decide +kernel, by decide +kernel⟩
theorem qm_RL_77 : QVir q_P RL 77 97 := ⟨q_wT3 77 (by decide +kernel) (by decide +kernel), q_wT3 78 (by decide +kernel) (by decide +kernel), q_wT3 79 (by decide +kernel) (by decide +kernel)⟩
theorem qc_X8_changesIt : QCal q_P 97 2 := ⟨q_wT3 80 (by decide +kernel) (by decide +kernel), q_wT1 1 (by decide +kernel) (by decide +kernel), ⟨by decide +kernel, by decide +kernel⟩, by decide +kernel, by decide +kernel⟩
theorem qm_RL_80 : QVir q_P RL 80 214 := ⟨q_wT6 70 (by decide +kernel) (by decide +kernel), q_wT6 71 (by decide +kernel) (by decide +kernel), q_wT6 72 (by decide +kernel) (by decide +kernel)⟩
theorem qc_X9_changesIt : QCal q_P 214 2 := ⟨q_wT6 73 (by decide +kernel) (by decide +kernel), q_wT1 10 (by decide +kernel) (by decide +kernel), ⟨by decide +kernel, by decide +kernel⟩, by decide +kernel, by decide +kernel⟩
theorem qm_RL_81 : QVir q_P RL 81 98 := ⟨q_wT3 81 (by decide +kernel) (by decide +kernel), q_wT3 82 (by decide +kernel) (by decide +kernel), q_wT3 83 (by decide +kernel) (by decide +kernel)⟩
theorem qc_X8_byWhom : QCal q_P 98 1 := ⟨q_wT3 84 (by decide +kernel) (by decide +kernel), q_wT1 1 (by decide +kernel) (by decide +kernel), ⟨by decide +kernel, by decide +kernel⟩, by decide +kernel, by decide +kernel⟩
theorem qm_RL_84 : QVir q_P RL 84 215 := ⟨q_wT6 78 (by decide +kernel) (by decide +kernel), q_wT6 79 (by decide +kernel) (by decide +kernel), q_wT6 80 (by decide +kernel) (by decide +kernel)⟩
theorem qc_X9_byWhom : QCal q_P 215 1 := ⟨q_wT6 81 (by decide +kernel) (by decide +kernel), q_wT1 10 (by decide +kernel) (by decide +kernel), ⟨by decide +kernel, by decide +kernel⟩, by decide +kernel, by decide +kernel⟩
theorem qm_RL_85 : QVir q_P RL 85 99 := ⟨q_wT3 85 (by decide +kernel) (by decide +kernel), q_wT3 86 (by decide +kernel) (by decide +kernel), q_wT3 87 (by decide +kernel) (by decide +kernel)⟩
theorem qc_X8_church : QCal q_P 99 3 := ⟨q_wT3 88 (by decide +kernel) (by decide +kernel), q_wT1 1 (by decide +kernel) (by decide +kernel), ⟨by decide +kernel, by decide +kernel⟩, by decide +kernel, by decide +kernel⟩
theorem qm_RL_88 : QVir q_P RL 88 218 := ⟨q_wT6 82 (by decide +kernel) (by decide +kernel), q_wT6 83 (by decide +kernel) (by decide +kernel), q_wT6 84 (by decide +kernel) (by decide +kernel)⟩
theorem qc_X9_church : QCal q_P 218 3 := ⟨q_wT6 85 (by decide +kernel) (by decide +kernel), q_wT1 10 (by decide +kernel) (by decide +kernel), ⟨by decide +kernel, by decide +kernel⟩, by decide +kernel, by decide +kernel⟩
theorem qm_RL_89 : QVir q_P RL 89 100 := ⟨q_wT3 97 (by decide +kernel) (by decide +kernel), q_wT3 98 (by decide +kernel) (by decide +kernel), q_wT3 99 (by decide +kernel) (by decide +kernel)⟩
theorem qc_X8_alike : QCal q_P 100 2 := ⟨q_wT3 100 (by decide +kernel) (by decide +kernel), q_wT1 1 (by decide +kernel) (by decide +kernel), ⟨by decide +kernel, by decide +kernel⟩, by decide +kernel, by decide +kernel⟩
theorem qm_RL_92 : QVir q_P RL 92 219 := ⟨q_wT6 94 (by decide +kernel) (by decide +kernel), q_wT6 95 (by decide +kernel) (by decide +kernel), q_wT6 96 (by decide +kernel) (by decide +kernel)⟩
theorem qc_X9_alike : QCal q_P 219 2 := ⟨q_wT6 97 (by decide +kernel) (by decide +kernel), q_wT1 10 (by decide +kernel) (by decide +kernel), ⟨by decide +kernel, by decide +kernel⟩, by decide +kernel, by decide +kernel⟩
theorem qm_RL_93 : QVir q_P RL 93 101 := ⟨q_wT3 105 (by decide +kernel) (by decide +kernel), q_wT3 106 (by decide +kernel) (by decide +kernel), q_wT3 107 (by decide +kernel) (by decide +kernel)⟩
theorem qc_X8_judge : QCal q_P 101 2 := ⟨q_wT3 108 (by decide +kernel) (by decide +kernel), q_wT1 1 (by decide +kernel) (by decide +kernel), ⟨by decide +kernel, by decide +kernel⟩, by decide +kernel, by decide +kernel⟩
theorem qm_RL_96 : QVir q_P RL 96 222 := ⟨q_wT6 98 (by decide +kernel) (by decide +kernel), q_wT6 99 (by decide +kernel) (by decide +kernel), q_wT6 100 (by decide +kernel) (by decide +kernel)⟩
theorem qc_X9_judge : QCal q_P 222 2 := ⟨q_wT6 101 (by decide +kernel) (by decide +kernel), q_wT1 10 (by decide +kernel) (by decide +kernel), ⟨by decide +kernel, by decide +kernel⟩, by decide +kernel, by decide +kernel⟩
theorem qm_RL_97 : QVir q_P RL 97 102 := ⟨q_wT3 113 (by decide +kernel) (by decide +kernel), q_wT3 114 (by decide +kernel) (by decide +kernel), q_wT3 115 (by decide +kernel) (by decide +kernel)⟩
theorem qc_X8_kinds : QCal q_P 102 2 := ⟨q_wT3 116 (by decide +kernel) (by decide +kernel), q_wT1 1 (by decide +kernel) (by decide +kernel), ⟨by decide +kernel, by decide +kernel⟩, by decide +kernel, by decide +kernel⟩
theorem qm_RL_100 : QVir q_P RL 100 223 := ⟨q_wT6 110 (by decide +kernel) (by decide +kernel), q_wT6 111 (by decide +kernel) (by decide +kernel), q_wT6 112 (by decide +kernel) (by decide +kernel)⟩
theorem qc_X9_kinds : QCal q_P 223 2 := ⟨q_wT6 113 (by decide +kernel) (by decide +kernel), q_wT1 10 (by decide +kernel) (by decide +kernel), ⟨by decide +kernel, by decide +kernel⟩, by decide +kernel, by decide +kernel⟩
theorem qm_RL_101 : QVir q_P RL 101 103 := ⟨q_wT3 121 (by decide +kernel) (by decide +kernel), q_wT3 122 (by decide +kernel) (by decide +kernel), q_wT3 123 (by decide +kernel) (by decide +kernel)⟩
theorem qc_X8_howFar : QCal q_P 103 2 := ⟨q_wT3 124 (by decide +kernel) (by decide +kernel), q_wT1 1 (by decide +kernel) (by decide +kernel), ⟨by decide +kernel, by decide +kernel⟩, by decide +kernel, by decide +kernel⟩
theorem qm_RL_104 : QVir q_P RL 104 224 := ⟨q_wT6 114 (by decide +kernel) (by decide +kernel), q_wT6 115 (by decide +kernel) (by decide +kernel), q_wT6 116 (by decide +kernel) (by decide +kernel)⟩
theorem qc_X9_howFar : QCal q_P 224 2 := ⟨q_wT6 117 (by decide +kernel) (by decide +kernel), q_wT1 10 (by decide +kernel) (by decide +kernel), ⟨by decide +kernel, by decide +kernel⟩, by decide +kernel, by decide +kernel⟩
theorem qm_RL_105 : QVir q_P RL 105 104 := ⟨q_wT3 125 (by decide +kernel) (by decide +kernel), q_wT3 126 (by decide +kernel) (by decide +kernel), q_wT3 127 (by decide +kernel) (by decide +kernel)⟩
theorem qc_X8_which : QCal q_P 104 1 := ⟨q_wT3 128 (by decide +kernel) (by decide +kernel), q_wT1 1 (by decide +kernel) (by decide +kernel), ⟨by decide +kernel, by decide +kernel⟩, by decide +kernel, by decide +kernel⟩
theorem qm_RL_108 : QVir q_P RL 108 225 := ⟨q_wT6 118 (by decide +kernel) (by decide +kernel), q_wT6 119 (by decide +kernel) (by decide +kernel), q_wT6 120 (by decide +kernel) (by decide +kernel)⟩
theorem qc_X9_which : QCal q_P 225 1 := ⟨q_wT6 121 (by decide +kernel) (by decide +kernel), q_wT1 10 (by decide +kernel) (by decide +kernel), ⟨by decide +kernel, by decide +kernel⟩, by decide +kernel, by decide +kernel⟩
theorem qm_RL_109 : QVir q_P RL 109 105 := ⟨q_wT3 129 (by decide +kernel) (by decide +kernel), q_wT3 130 (by decide +kernel) (by decide +kernel), q_wT3 131 (by decide +kernel) (by decide +kernel)⟩
theorem qc_X8_asTold : QCal q_P 105 1 := ⟨q_wT3 132 (by decide +kernel) (by decide +kernel), q_wT1 1 (by decide +kernel) (by decide +kernel), ⟨by decide +kernel, by decide +kernel⟩, by decide +kernel, by decide +kernel⟩
theorem qm_RL_112 : QVir q_P RL 112 227 := ⟨q_wT6 122 (by decide +kernel) (by decide +kernel), q_wT6 123 (by decide +kernel) (by decide +kernel), q_wT6 124 (by decide +kernel) (by decide +kernel)⟩
theorem qc_X9_asTold : QCal q_P 227 1 := ⟨q_wT6 125 (by decide +kernel) (by decide +kernel), q_wT1 10 (by decide +kernel) (by decide +kernel), ⟨by decide +kernel, by decide +kernel⟩, by decide +kernel, by decide +kernel⟩
theorem qm_RL_113 : QVir q_P RL 113 106 := ⟨q_wT3 137 (by decide +kernel) (by decide +kernel), q_wT3 138 (by decide +kernel) (by decide +kernel), q_wT3 139 (by decide +kernel) (by decide +kernel)⟩
theorem qc_X8_deaf : QCal q_P 106 1 := ⟨q_wT3 140 (by decide +kernel) (by decide +kernel), q_wT1 1 (by decide +kernel) (by decide +kernel), ⟨by decide +kernel, by decide +kernel⟩, by decide +kernel, by decide +kernel⟩
theorem qm_RL_116 : QVir q_P RL 116 228 := ⟨q_wT6 130 (by decide +kernel) (by decide +kernel), q_wT6 131 (by decide +kernel) (by decide +kernel), q_wT6 132 (by decide +kernel) (by decide +kernel)⟩
theorem qc_X9_deaf : QCal q_P 228 1 := ⟨q_wT6 133 (by decide +kernel) (by decide +kernel), q_wT1 10 (by decide +kernel) (by decide +kernel), ⟨by decide +kernel, by decide +kernel⟩, by decide +kernel, by decide +kernel⟩
theorem qm_RL_117 : QVir q_P RL 117 107 := ⟨q_wT3 141 (by decide +kernel) (by decide +kernel), q_wT3 142 (by decide +kernel) (by decide +kernel), q_wT3 143 (by decide +kernel) (by decide +kernel)⟩
theorem qc_X8_drawn : QCal q_P 107 3 := ⟨q_wT3 144 (by decide +kernel) (by decide +kernel), q_wT1 1 (by decide +kernel) (by decide +kernel), ⟨by decide +kernel, by decide +kernel⟩, by decide +kernel, by decide +kernel⟩
theorem qm_RL_120 : QVir q_P RL 120 229 := ⟨q_wT6 134 (by decide +kernel) (by decide +kernel), q_wT6 135 (by decide +kernel) (by decide +kernel), q_wT6 136 (by decide +kernel) (by decide +kernel)⟩
theorem qc_X9_drawn : QCal q_P 229 3 := ⟨q_wT6 137 (by decide +kernel) (by decide +kernel), q_wT1 10 (by decide +kernel) (by decide +kernel), ⟨by decide +kernel, by decide +kernel⟩, by decide +kernel, by decide +kernel⟩
theorem qm_RL_121 : QVir q_P RL 121 108 := ⟨q_wT3 157 (by decide +kernel) (by decide +kernel), q_wT3 158 (by decide +kernel) (by decide +kernel), q_wT3 159 (by decide +kernel) (by decide +kernel)⟩
theorem qc_X8_pass : QCal q_P 108 0 := ⟨q_wT3 160 (by decide +kernel) (by decide +kernel), q_wT1 1 (by decide +kernel) (by decide +kernel), ⟨by decide +kernel, by decide +kernel⟩, by decide +kernel, by decide +kernel⟩
theorem qm_RL_124 : QVir q_P RL 124 231 := ⟨q_wT6 139 (by decide +kernel) (by decide +kernel), q_wT6 140 (by decide +kernel) (by decide +kernel), q_wT6 141 (by decide +kernel) (by decide +kernel)⟩
theorem qc_X9_pass : QCal q_P 231 0 := ⟨q_wT6 142 (by decide +kernel) (by decide +kernel), q_wT1 10 (by decide +kernel) (by decide +kernel), ⟨by decide +kernel, by decide +kernel⟩, by decide +kernel, by decide +kernel⟩
theorem qm_RL_125 : QVir q_P RL 125 109 := ⟨q_wT3 178 (by decide +kernel) (by decide +kernel), q_wT3 179 (by decide +kernel) (by decide +kernel), q_wT3 180 (by decide +kernel) (by decide +kernel)⟩
theorem qc_X8_tell : QCal q_P 109 2 := ⟨q_wT3 181 (by decide +kernel) (by decide +kernel), q_wT1 1 (by decide +kernel) (by decide +kernel), ⟨by decide +kernel, by decide +kernel⟩, by decide +kernel, by decide +kernel⟩
theorem qm_RL_128 : QVir q_P RL 128 232 := ⟨q_wT6 143 (by decide +kernel) (by decide +kernel), q_wT6 144 (by decide +kernel) (by decide +kernel), q_wT6 145 (by decide +kernel) (by decide +kernel)⟩
theorem qc_X9_tell : QCal q_P 232 2 := ⟨q_wT6 146 (by decide +kernel) (by decide +kernel), q_wT1 10 (by decide +kernel) (by decide +kernel), ⟨by decide +kernel, by decide +kernel⟩, by decide +kernel, by decide +kernel⟩
theorem qm_RL_129 : QVir q_P RL 129 110 := ⟨q_wT3 186 (by decide +kernel) (by decide +kernel), q_wT3 187 (by decide +kernel) (by decide +kernel), q_wT3 188 (by decide +kernel) (by decide +kernel)⟩
theorem qc_X8_day : QCal q_P 110 0 := ⟨q_wT3 189 (by decide +kernel) (by decide +kernel), q_wT1 1 (by decide +kernel) (by decide +kernel), ⟨by decide +kernel, by decide +kernel⟩, by decide +kernel, by decide +kernel⟩
theorem qm_RL_132 : QVir q_P RL 132 233 := ⟨q_wT6 147 (by decide +kernel) (by decide +kernel), q_wT6 148 (by decide +kernel) (by decide +kernel), q_wT6 149 (by decide +kernel) (by decide +kernel)⟩
theorem qc_X9_day : QCal q_P 233 0 := ⟨q_wT6 150 (by decide +kernel) (by decide +kernel), q_wT1 10 (by decide +kernel) (by decide +kernel), ⟨by decide +kernel, by decide +kernel⟩, by decide +kernel, by decide +kernel⟩
theorem qm_RL_133 : QVir q_P RL 133 111 := ⟨q_wT3 195 (by decide +kernel) (by decide +kernel), q_wT3 196 (by decide +kernel) (by decide +kernel), q_wT3 197 (by decide +kernel) (by decide +kernel)⟩
theorem qc_X8_led : QCal q_P 111 1 := ⟨q_wT3 198 (by decide +kernel) (by decide +kernel), q_wT1 1 (by decide +kernel) (by decide +kernel), ⟨by decide +kernel, by decide +kernel⟩, by decide +kernel, by decide +kernel⟩
theorem qm_RL_136 : QVir q_P RL 136 234 := ⟨q_wT6 151 (by decide +kernel) (by decide +kernel), q_wT6 152 (by decide +kernel) (by decide +kernel), q_wT6 153 (by decide +kernel) (by decide +kernel)⟩
theorem qc_X9_led : QCal q_P 234 1 := ⟨q_wT6 154 (by decide +kernel) (by decide +kernel), q_wT1 10 (by decide +kernel) (by decide +kernel), ⟨by decide +kernel, by decide +kernel⟩, by decide +kernel, by decide +kernel⟩
theorem qm_RL_137 : QVir q_P RL 137 112 := ⟨q_wT3 199 (by decide +kernel) (by decide +kernel), q_wT3 200 (by decide +kernel) (by decide +kernel), q_wT3 201 (by decide +kernel) (by decide +kernel)⟩
theorem qc_X8_image : QCal q_P 112 0 := ⟨q_wT3 202 (by decide +kernel) (by decide +kernel), q_wT1 1 (by decide +kernel) (by decide +kernel), ⟨by decide +kernel, by decide +kernel⟩, by decide +kernel, by decide +kernel⟩
theorem qm_RL_140 : QVir q_P RL 140 235 := ⟨q_wT6 155 (by decide +kernel) (by decide +kernel), q_wT6 156 (by decide +kernel) (by decide +kernel), q_wT6 157 (by decide +kernel) (by decide +kernel)⟩
theorem qc_X9_image : QCal q_P 235 0 := ⟨q_wT6 158 (by decide +kernel) (by decide +kernel), q_wT1 10 (by decide +kernel) (by decide +kernel), ⟨by decide +kernel, by decide +kernel⟩, by decide +kernel, by decide +kernel⟩
theorem qm_RL_141 : QVir q_P RL 141 113 := ⟨q_wT3 213 (by decide +kernel) (by decide +kernel), q_wT3 214 (by decide +kernel) (by decide +kernel), q_wT3 215 (by decide +kernel) (by decide +kernel)⟩
theorem qc_X8_back : QCal q_P 113 0 := ⟨q_wT3 216 (by decide +kernel) (by decide +kernel), q_wT1 1 (by decide +kernel) (by decide +kernel), ⟨by decide +kernel, by decide +kernel⟩, by decide +kernel, by decide +kernel⟩
theorem qm_RL_144 : QVir q_P RL 144 236 := ⟨q_wT6 159 (by decide +kernel) (by decide +kernel), q_wT6 160 (by decide +kernel) (by decide +kernel), q_wT6 161 (by decide +kernel) (by decide +kernel)⟩
theorem qc_X9_back : QCal q_P 236 0 := ⟨q_wT6 162 (by decide +kernel) (by decide +kernel), q_wT1 10 (by decide +kernel) (by decide +kernel), ⟨by decide +kernel, by decide +kernel⟩, by decide +kernel, by decide +kernel⟩
theorem qm_RL_145 : QVir q_P RL 145 114 := ⟨q_wT3 217 (by decide +kernel) (by decide +kernel), q_wT3 218 (by decide +kernel) (by decide +kernel), q_wT3 219 (by decide +kernel) (by decide +kernel)⟩
theorem qc_X8_undo : QCal q_P 114 0 := ⟨q_wT3 220 (by decide +kernel) (by decide +kernel), q_wT1 1 (by decide +kernel) (by decide +kernel), ⟨by decide +kernel, by decide +kernel⟩, by decide +kernel, by decide +kernel⟩
theorem qm_RL_148 : QVir q_P RL 148 164 := ⟨q_wT5 102 (by decide +kernel) (by decide +kernel), q_wT5 103 (by decide +kernel) (by decide +kernel), q_wT5 104 (by decide +kernel) (by decide +kernel)⟩
theorem qc_X9_undo : QCal q_P 164 0 := ⟨q_wT5 105 (by decide +kernel) (by decide +kernel), q_wT1 10 (by decide +kernel) (by decide +kernel), ⟨by decide +kernel, by decide +kernel⟩, by decide +kernel, by decide +kernel⟩
theorem qm_RL_149 : QVir q_P RL 149 115 := ⟨q_wT3 232 (by decide +kernel) (by decide +kernel), q_wT3 233 (by decide +kernel) (by decide +kernel), q_wT3 234 (by decide +kernel) (by decide +kernel)⟩
theorem qc_X8_redo : QCal q_P 115 0 := ⟨q_wT3 235 (by decide +kernel) (by decide +kernel), q_wT1 1 (by decide +kernel) (by decide +kernel), ⟨by decide +kernel, by decide +kernel⟩, by decide +kernel, by decide +kernel⟩
theorem qm_RL_152 : QVir q_P RL 152 165 := ⟨q_wT5 106 (by decide +kernel) (by decide +kernel), q_wT5 107 (by decide +kernel) (by decide +kernel), q_wT5 108 (by decide +kernel) (by decide +kernel)⟩
theorem qc_X9_redo : QCal q_P 165 0 := ⟨q_wT5 109 (by decide +kernel) (by decide +kernel), q_wT1 10 (by decide +kernel) (by decide +kernel), ⟨by decide +kernel, by decide +kernel⟩, by decide +kernel, by decide +kernel⟩
theorem qm_RL_153 : QVir q_P RL 153 116 := ⟨q_wT4 0 (by decide +kernel) (by decide +kernel), q_wT4 1 (by decide +kernel) (by decide +kernel), q_wT4 2 (by decide +kernel) (by decide +kernel)⟩
theorem qc_X8_body : QCal q_P 116 1 := ⟨q_wT4 3 (by decide +kernel) (by decide +kernel), q_wT1 1 (by decide +kernel) (by decide +kernel), ⟨by decide +kernel, by decide +kernel⟩, by decide +kernel, by decide +kernel⟩
theorem qm_RL_156 : QVir q_P RL 156 237 := ⟨q_wT6 163 (by decide +kernel) (by decide +kernel), q_wT6 164 (by decide +kernel) (by decide +kernel), q_wT6 165 (by decide +kernel) (by decide +kernel)⟩
theorem qc_X9_body : QCal q_P 237 1 := ⟨q_wT6 166 (by decide +kernel) (by decide +kernel), q_wT1 10 (by decide +kernel) (by decide +kernel), ⟨by decide +kernel, by decide +kernel⟩, by decide +kernel, by decide +kernel⟩
theorem qm_RL_157 : QVir q_P RL 157 117 := ⟨q_wT4 8 (by decide +kernel) (by decide +kernel), q_wT4 9 (by decide +kernel) (by decide +kernel), q_wT4 10 (by decide +kernel) (by decide +kernel)⟩
theorem qc_X8_act : QCal q_P 117 3 := ⟨q_wT4 11 (by decide +kernel) (by decide +kernel), q_wT1 1 (by decide +kernel) (by decide +kernel), ⟨by decide +kernel, by decide +kernel⟩, by decide +kernel, by decide +kernel⟩
theorem qm_RL_160 : QVir q_P RL 160 244 := ⟨q_wT6 167 (by decide +kernel) (by decide +kernel), q_wT6 168 (by decide +kernel) (by decide +kernel), q_wT6 169 (by decide +kernel) (by decide +kernel)⟩
theorem qc_X9_act : QCal q_P 244 3 := ⟨q_wT6 170 (by decide +kernel) (by decide +kernel), q_wT1 10 (by decide +kernel) (by decide +kernel), ⟨by decide +kernel, by decide +kernel⟩, by decide +kernel, by decide +kernel⟩
theorem qm_RL_161 : QVir q_P RL 161 118 := ⟨q_wT4 49 (by decide +kernel) (by decide +kernel), q_wT4 50 (by decide +kernel) (by decide +kernel), q_wT4 51 (by decide +kernel) (by decide +kernel)⟩
theorem qc_X8_trace : QCal q_P 118 1 := ⟨q_wT4 52 (by decide +kernel) (by decide +kernel), q_wT1 1 (by decide +kernel) (by decide +kernel), ⟨by decide +kernel, by decide +kernel⟩, by decide +kernel, by decide +kernel⟩
theorem qm_RL_164 : QVir q_P RL 164 245 := ⟨q_wT6 195 (by decide +kernel) (by decide +kernel), q_wT6 196 (by decide +kernel) (by decide +kernel), q_wT6 197 (by decide +kernel) (by decide +kernel)⟩
theorem qc_X9_trace : QCal q_P 245 1 := ⟨q_wT6 198 (by decide +kernel) (by decide +kernel), q_wT1 10 (by decide +kernel) (by decide +kernel), ⟨by decide +kernel, by decide +kernel⟩, by decide +kernel, by decide +kernel⟩
theorem qm_RL_165 : QVir q_P RL 165 119 := ⟨q_wT4 57 (by decide +kernel) (by decide +kernel), q_wT4 58 (by decide +kernel) (by decide +kernel), q_wT4 59 (by decide +kernel) (by decide +kernel)⟩
theorem qc_X8_keep : QCal q_P 119 2 := ⟨q_wT4 60 (by decide +kernel) (by decide +kernel), q_wT1 1 (by decide +kernel) (by decide +kernel), ⟨by decide +kernel, by decide +kernel⟩, by decide +kernel, by decide +kernel⟩
theorem qm_RL_168 : QVir q_P RL 168 248 := ⟨q_wT6 199 (by decide +kernel) (by decide +kernel), q_wT6 200 (by decide +kernel) (by decide +kernel), q_wT6 201 (by decide +kernel) (by decide +kernel)⟩
theorem qc_X9_keep : QCal q_P 248 2 := ⟨q_wT6 202 (by decide +kernel) (by decide +kernel), q_wT1 10 (by decide +kernel) (by decide +kernel), ⟨by decide +kernel, by decide +kernel⟩, by decide +kernel, by decide +kernel⟩
theorem qm_RL_169 : QVir q_P RL 169 120 := ⟨q_wT4 70 (by decide +kernel) (by decide +kernel), q_wT4 71 (by decide +kernel) (by decide +kernel), q_wT4 72 (by decide +kernel) (by decide +kernel)⟩
theorem qc_X8_row : QCal q_P 120 3 := ⟨q_wT4 73 (by decide +kernel) (by decide +kernel), q_wT1 1 (by decide +kernel) (by decide +kernel), ⟨by decide +kernel, by decide +kernel⟩, by decide +kernel, by decide +kernel⟩
theorem qm_RL_172 : QVir q_P RL 172 249 := ⟨q_wT6 203 (by decide +kernel) (by decide +kernel), q_wT6 204 (by decide +kernel) (by decide +kernel), q_wT6 205 (by decide +kernel) (by decide +kernel)⟩
theorem qc_X9_row : QCal q_P 249 3 := ⟨q_wT6 206 (by decide +kernel) (by decide +kernel), q_wT1 10 (by decide +kernel) (by decide +kernel), ⟨by decide +kernel, by decide +kernel⟩, by decide +kernel, by decide +kernel⟩
theorem qm_RL_175 : QVir q_P RL 175 121 := ⟨q_wT4 80 (by decide +kernel) (by decide +kernel), q_wT4 81 (by decide +kernel) (by decide +kernel), q_wT4 82 (by decide +kernel) (by decide +kernel)⟩
theorem qc_X8_put : QCal q_P 121 3 := ⟨q_wT4 83 (by decide +kernel) (by decide +kernel), q_wT1 1 (by decide +kernel) (by decide +kernel), ⟨by decide +kernel, by decide +kernel⟩, by decide +kernel, by decide +kernel⟩
theorem qm_RL_179 : QVir q_P RL 179 252 := ⟨q_wT6 207 (by decide +kernel) (by decide +kernel), q_wT6 208 (by decide +kernel) (by decide +kernel), q_wT6 209 (by decide +kernel) (by decide +kernel)⟩
theorem qc_X9_put : QCal q_P 252 3 := ⟨q_wT6 210 (by decide +kernel) (by decide +kernel), q_wT1 10 (by decide +kernel) (by decide +kernel), ⟨by decide +kernel, by decide +kernel⟩, by decide +kernel, by decide +kernel⟩
theorem qm_RL_180 : QVir q_P RL 180 122 := ⟨q_wT4 97 (by decide +kernel) (by decide +kernel), q_wT4 98 (by decide +kernel) (by decide +kernel), q_wT4 99 (by decide +kernel) (by decide +kernel)⟩
theorem qc_X8_element : QCal q_P 122 2 := ⟨q_wT4 100 (by decide +kernel) (by decide +kernel), q_wT1 1 (by decide +kernel) (by decide +kernel), ⟨by decide +kernel, by decide +kernel⟩, by decide +kernel, by decide +kernel⟩
theorem qm_RL_184 : QVir q_P RL 184 253 := ⟨q_wT6 219 (by decide +kernel) (by decide +kernel), q_wT6 220 (by decide +kernel) (by decide +kernel), q_wT6 221 (by decide +kernel) (by decide +kernel)⟩
theorem qc_X9_element : QCal q_P 253 2 := ⟨q_wT6 222 (by decide +kernel) (by decide +kernel), q_wT1 10 (by decide +kernel) (by decide +kernel), ⟨by decide +kernel, by decide +kernel⟩, by decide +kernel, by decide +kernel⟩
theorem qm_RL_185 : QVir q_P RL 185 123 := ⟨q_wT4 102 (by decide +kernel) (by decide +kernel), q_wT4 103 (by decide +kernel) (by decide +kernel), q_wT4 104 (by decide +kernel) (by decide +kernel)⟩
theorem qc_X8_shift : QCal q_P 123 5 := ⟨q_wT4 105 (by decide +kernel) (by decide +kernel), q_wT1 1 (by decide +kernel) (by decide +kernel), ⟨by decide +kernel, by decide +kernel⟩, by decide +kernel, by decide +kernel⟩
theorem qm_RL_189 : QVir q_P RL 189 254 := ⟨q_wT6 224 (by decide +kernel) (by decide +kernel), q_wT6 225 (by decide +kernel) (by decide +kernel), q_wT6 226 (by decide +kernel) (by decide +kernel)⟩
theorem qc_X9_shift : QCal q_P 254 5 := ⟨q_wT6 227 (by decide +kernel) (by decide +kernel), q_wT1 10 (by decide +kernel) (by decide +kernel), ⟨by decide +kernel, by decide +kernel⟩, by decide +kernel, by decide +kernel⟩
theorem qm_RL_190 : QVir q_P RL 190 124 := ⟨q_wT4 111 (by decide +kernel) (by decide +kernel), q_wT4 112 (by decide +kernel) (by decide +kernel), q_wT4 113 (by decide +kernel) (by decide +kernel)⟩
theorem qc_X8_taken : QCal q_P 124 2 := ⟨q_wT4 114 (by decide +kernel) (by decide +kernel), q_wT1 1 (by decide +kernel) (by decide +kernel), ⟨by decide +kernel, by decide +kernel⟩, by decide +kernel, by decide +kernel⟩
theorem qm_RL_193 : QVir q_P RL 193 255 := ⟨q_wT6 228 (by decide +kernel) (by decide +kernel), q_wT6 229 (by decide +kernel) (by decide +kernel), q_wT6 230 (by decide +kernel) (by decide +kernel)⟩
theorem qc_X9_taken : QCal q_P 255 2 := ⟨q_wT6 231 (by decide +kernel) (by decide +kernel), q_wT1 10 (by decide +kernel) (by decide +kernel), ⟨by decide +kernel, by decide +kernel⟩, by decide +kernel, by decide +kernel⟩
theorem qm_RL_194 : QVir q_P RL 194 125 := ⟨q_wT4 119 (by decide +kernel) (by decide +kernel), q_wT4 120 (by decide +kernel) (by decide +kernel), q_wT4 121 (by decide +kernel) (by decide +kernel)⟩
theorem qc_X8_count : QCal q_P 125 1 := ⟨q_wT4 122 (by decide +kernel) (by decide +kernel), q_wT1 1 (by decide +kernel) (by decide +kernel), ⟨by decide +kernel, by decide +kernel⟩, by decide +kernel, by decide +kernel⟩
theorem qm_RL_197 : QVir q_P RL 197 256 := ⟨q_wT6 232 (by decide +kernel) (by decide +kernel), q_wT6 233 (by decide +kernel) (by decide +kernel), q_wT6 234 (by decide +kernel) (by decide +kernel)⟩
theorem qc_X9_count : QCal q_P 256 1 := ⟨q_wT6 235 (by decide +kernel) (by decide +kernel), q_wT1 10 (by decide +kernel) (by decide +kernel), ⟨by decide +kernel, by decide +kernel⟩, by decide +kernel, by decide +kernel⟩
/-- how many cells and slots each constructor makes -/
def q_B : Nat → Nat × Nat := fun k => match k with
  | 0 => (3, 120)
  | 7 => (3, 314)
  | 14 => (1, 53)
  | 24 => (2, 242)
  | 33 => (2, 241)
  | 46 => (1, 60)
  | 59 => (2, 74)
  | 72 => (1, 301)
  | 81 => (43, 2449)
  | 150 => (28, 2935)
  | _ => (0, 0)
