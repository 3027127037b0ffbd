theorem gw_t1 {w : Cond} (i : Nat) (h : tables_1_1[i]? = some w) (hg : goodWord w = true) : w ∈ gw := by
  have h := List.mem_of_getElem? h
  exact List.mem_filter.mpr ⟨List.mem_append_right _ (List.mem_append_left _ h), hg⟩
theorem nw_t1 {w : Cond} (i : Nat) (h : tables_1_1[i]? = some w) (hg : isNest w = true) : w ∈ nw := by
  have h := List.mem_of_getElem? h
  exact List.mem_filter.mpr ⟨List.mem_append_right _ (List.mem_append_left _ h), hg⟩
theorem gw_t2 {w : Cond} (i : Nat) (h : tables_1_2[i]? = some w) (hg : goodWord w = true) : w ∈ gw := by
  have h := List.mem_of_getElem? h
  exact List.mem_filter.mpr ⟨List.mem_append_right _ (List.mem_append_right _ (List.mem_append_left _ h)), hg⟩
theorem nw_t2 {w : Cond} (i : Nat) (h : tables_1_2[i]? = some w) (hg : isNest w = true) : w ∈ nw := by
  have h := List.mem_of_getElem? h
  exact List.mem_filter.mpr ⟨List.mem_append_right _ (List.mem_append_right _ (List.mem_append_left _ h)), hg⟩
theorem gw_t3 {w : Cond} (i : Nat) (h : tables_1_3[i]? = some w) (hg : goodWord w = true) : w ∈ gw := by
  have h := List.mem_of_getElem? h
  exact List.mem_filter.mpr ⟨List.mem_append_right _ (List.mem_append_right _ (List.mem_append_right _ (List.mem_append_left _ h))), hg⟩
theorem nw_t3 {w : Cond} (i : Nat) (h : tables_1_3[i]? = some w) (hg : isNest w = true) : w ∈ nw := by
  have h := List.mem_of_getElem? h
  exact List.mem_filter.mpr ⟨List.mem_append_right _ (List.mem_append_right _ (List.mem_append_right _ (List.mem_append_left _ h))), hg⟩
theorem gw_t4 {w : Cond} (i : Nat) (h : tables_1_4[i]? = some w) (hg : goodWord w = true) : w ∈ gw := by
  have h := List.mem_of_getElem? h
  exact List.mem_filter.mpr ⟨List.mem_append_right _ (List.mem_append_right _ (List.mem_append_right _ (List.mem_append_right _ (List.mem_append_left _ h)))), hg⟩
theorem nw_t4 {w : Cond} (i : Nat) (h : tables_1_4[i]? = some w) (hg : isNest w = true) : w ∈ nw := by
  have h := List.mem_of_getElem? h
  exact List.mem_filter.mpr ⟨List.mem_append_right _ (List.mem_append_right _ (List.mem_append_right _ (List.mem_append_right _ (List.mem_append_left _ h)))), hg⟩
theorem gw_t5 {w : Cond} (i : Nat) (h : tables_1_5[i]? = some w) (hg : goodWord w = true) : w ∈ gw := by
  have h := List.mem_of_getElem? h
  exact List.mem_filter.mpr ⟨List.mem_append_right _ (List.mem_append_right _ (List.mem_append_right _ (List.mem_append_right _ (List.mem_append_right _ (List.mem_append_left _ h))))), hg⟩
theorem nw_t5 {w : Cond} (i : Nat) (h : tables_1_5[i]? = some w) (hg : isNest w = true) : w ∈ nw := by
  have h := List.mem_of_getElem? h
  exact List.mem_filter.mpr ⟨List.mem_append_right _ (List.mem_append_right _ (List.mem_append_right _ (List.mem_append_right _ (List.mem_append_right _ (List.mem_append_left _ h))))), hg⟩
theorem gw_t6 {w : Cond} (i : Nat) (h : tables_1_6[i]? = some w) (hg : goodWord w = true) : w ∈ gw := by
  have h := List.mem_of_getElem? h
  exact List.mem_filter.mpr ⟨List.mem_append_right _ (List.mem_append_right _ (List.mem_append_right _ (List.mem_append_right _ (List.mem_append_right _ (List.mem_append_right _ (h)))))), hg⟩
theorem nw_t6 {w : Cond} (i : Nat) (h : tables_1_6[i]? = some w) (hg : isNest w = true) : w ∈ nw := by
  have h := List.mem_of_getElem? h
  exact List.mem_filter.mpr ⟨List.mem_append_right _ (List.mem_append_right _ (List.mem_append_right _ (List.mem_append_right _ (List.mem_append_right _ (List.mem_append_right _ (h)))))), hg⟩
theorem gw_p1 {y : MethodName} {n : Nat} (i : Nat) (h : lw_privs_1[i]? = some (y, n)) : Cond.selects y.cls y y ∈ gw := by
  have h := List.mem_of_getElem? h
  have h2 : (y, n) ∈ lw_privs := List.mem_append_left _ h
  exact List.mem_filter.mpr ⟨List.mem_append_left _ (List.mem_map.mpr ⟨(y, n), h2, rfl⟩), rfl⟩
theorem gw_p2 {y : MethodName} {n : Nat} (i : Nat) (h : lw_privs_2[i]? = some (y, n)) : Cond.selects y.cls y y ∈ gw := by
  have h := List.mem_of_getElem? h
  have h2 : (y, n) ∈ lw_privs := List.mem_append_right _ (List.mem_append_left _ h)
  exact List.mem_filter.mpr ⟨List.mem_append_left _ (List.mem_map.mpr ⟨(y, n), h2, rfl⟩), rfl⟩
theorem gw_p3 {y : MethodName} {n : Nat} (i : Nat) (h : lw_privs_3[i]? = some (y, n)) : Cond.selects y.cls y y ∈ gw := by
  have h := List.mem_of_getElem? h
  have h2 : (y, n) ∈ lw_privs := List.mem_append_right _ (List.mem_append_right _ (List.mem_append_left _ h))
  exact List.mem_filter.mpr ⟨List.mem_append_left _ (List.mem_map.mpr ⟨(y, n), h2, rfl⟩), rfl⟩
theorem gw_p4 {y : MethodName} {n : Nat} (i : Nat) (h : lw_privs_4[i]? = some (y, n)) : Cond.selects y.cls y y ∈ gw := by
  have h := List.mem_of_getElem? h
  have h2 : (y, n) ∈ lw_privs := List.mem_append_right _ (List.mem_append_right _ (List.mem_append_right _ (List.mem_append_left _ h)))
  exact List.mem_filter.mpr ⟨List.mem_append_left _ (List.mem_map.mpr ⟨(y, n), h2, rfl⟩), rfl⟩
theorem gw_p5 {y : MethodName} {n : Nat} (i : Nat) (h : lw_privs_5[i]? = some (y, n)) : Cond.selects y.cls y y ∈ gw := by
  have h := List.mem_of_getElem? h
  have h2 : (y, n) ∈ lw_privs := List.mem_append_right _ (List.mem_append_right _ (List.mem_append_right _ (List.mem_append_right _ (h))))
  exact List.mem_filter.mpr ⟨List.mem_append_left _ (List.mem_map.mpr ⟨(y, n), h2, rfl⟩), rfl⟩
def mD_init : Md := (⟨"WhoseDelay", "<init>", "()V"⟩, prog_1_method_1_code, 2, none)
def mT_init : Md := (⟨"WhoseDelay$Site", "<init>", "()V"⟩, prog_9_method_1_code, 1, none)
def mY_init : Md := (⟨"WhoseDelay$Days", "<init>", "()V"⟩, prog_3_method_1_code, 1, none)
def mJ_bitCount : Md := (⟨"java/lang/Integer", "bitCount", "(I)I"⟩, prog_14_method_49_code, 1, some .int)
def mY_countDry : Md := (⟨"WhoseDelay$Days", "countDry", "(I)V"⟩, prog_3_method_7_code, 3, none)
def mD_holds : Md := (⟨"WhoseDelay", "holds", "(II)Z"⟩, prog_1_method_48_code, 2, some .boolean)
def mY_isWet : Md := (⟨"WhoseDelay$Days", "isWet", "(I)Z"⟩, prog_3_method_6_code, 2, some .boolean)
def mW_init : Md := (⟨"WhoseDelay$Works", "<init>", "()V"⟩, prog_11_method_1_code, 1, none)
def mE_init : Md := (⟨"WhoseDelay$Events", "<init>", "()V"⟩, prog_4_method_1_code, 1, none)
def mC_init : Md := (⟨"WhoseDelay$Contract", "<init>", "()V"⟩, prog_2_method_1_code, 1, none)
def mH_init : Md := (⟨"WhoseDelay$Haste", "<init>", "()V"⟩, prog_5_method_1_code, 1, none)
def mP_init : Md := (⟨"WhoseDelay$Plan", "<init>", "()V"⟩, prog_6_method_1_code, 1, none)
def mR_init : Md := (⟨"WhoseDelay$Reader", "<init>", "()V"⟩, prog_7_method_1_code, 1, none)
def mV_init : Md := (⟨"WhoseDelay$Voices", "<init>", "()V"⟩, prog_10_method_1_code, 1, none)
def mS_init : Md := (⟨"WhoseDelay$Sheet", "<init>", "()V"⟩, prog_8_method_1_code, 1, none)
def mD_work : Md := (⟨"WhoseDelay", "work", "(II)I"⟩, prog_1_method_2_code, 3, some .int)
def mD_isKind : Md := (⟨"WhoseDelay", "isKind", "(I)Z"⟩, prog_1_method_43_code, 1, some .boolean)
def mD_within : Md := (⟨"WhoseDelay", "within", "(III)Z"⟩, prog_1_method_41_code, 3, some .boolean)
def mD_finding : Md := (⟨"WhoseDelay", "finding", "(I)I"⟩, prog_1_method_40_code, 3, some .int)
def mW_add : Md := (⟨"WhoseDelay$Works", "add", "(II)I"⟩, prog_11_method_4_code, 3, some .int)
def mD_as : Md := (⟨"WhoseDelay", "as", "(II)I"⟩, prog_1_method_3_code, 4, some .int)
def mW_has : Md := (⟨"WhoseDelay$Works", "has", "(I)Z"⟩, prog_11_method_3_code, 2, some .boolean)
def mD_isUnder : Md := (⟨"WhoseDelay", "isUnder", "(II)Z"⟩, prog_1_method_47_code, 4, some .boolean)
def mD_edit : Md := (⟨"WhoseDelay", "edit", "(II)I"⟩, prog_1_method_4_code, 5, some .int)
def mH_mostOf : Md := (⟨"WhoseDelay$Haste", "mostOf", "(I)I"⟩, prog_5_method_4_code, 3, some .int)
def mD_link : Md := (⟨"WhoseDelay", "link", "(III)I"⟩, prog_1_method_5_code, 5, some .int)
def mW_linked : Md := (⟨"WhoseDelay$Works", "linked", "(II)Z"⟩, prog_11_method_5_code, 3, some .boolean)
def mW_leadsTo : Md := (⟨"WhoseDelay$Works", "leadsTo", "(II)Z"⟩, prog_11_method_6_code, 7, some .boolean)
def mW_join : Md := (⟨"WhoseDelay$Works", "join", "(III)I"⟩, prog_11_method_7_code, 4, some .int)
def mW_arrange : Md := (⟨"WhoseDelay$Works", "arrange", "()V"⟩, prog_11_method_10_code, 4, none)
def mW_nextAfter : Md := (⟨"WhoseDelay$Works", "nextAfter", "(I)I"⟩, prog_11_method_11_code, 3, some .int)
def mD_unlink : Md := (⟨"WhoseDelay", "unlink", "(II)I"⟩, prog_1_method_6_code, 4, some .int)
def mW_loosen : Md := (⟨"WhoseDelay$Works", "loosen", "(II)I"⟩, prog_11_method_8_code, 3, some .int)
def mD_week : Md := (⟨"WhoseDelay", "week", "(I)I"⟩, prog_1_method_7_code, 2, some .int)
def mY_turnWeek : Md := (⟨"WhoseDelay$Days", "turnWeek", "(I)I"⟩, prog_3_method_3_code, 3, some .int)
def mJ_max : Md := (⟨"java/lang/Math", "max", "(II)I"⟩, prog_15_method_65_code, 2, some .int)
def mD_rain : Md := (⟨"WhoseDelay", "rain", "(IIZ)I"⟩, prog_1_method_8_code, 4, some .int)
def mY_turnRain : Md := (⟨"WhoseDelay$Days", "turnRain", "(IIZ)I"⟩, prog_3_method_4_code, 6, some .int)
def mD_today : Md := (⟨"WhoseDelay", "today", "(I)I"⟩, prog_1_method_9_code, 3, some .int)
def mD_event : Md := (⟨"WhoseDelay", "event", "(III)I"⟩, prog_1_method_10_code, 5, some .int)
def mD_isCause : Md := (⟨"WhoseDelay", "isCause", "(I)Z"⟩, prog_1_method_44_code, 1, some .boolean)
def mE_add : Md := (⟨"WhoseDelay$Events", "add", "(IIII)I"⟩, prog_4_method_5_code, 5, some .int)
def mD_notice : Md := (⟨"WhoseDelay", "notice", "(II)I"⟩, prog_1_method_11_code, 4, some .int)
def mE_has : Md := (⟨"WhoseDelay$Events", "has", "(I)Z"⟩, prog_4_method_3_code, 2, some .boolean)
def mD_back : Md := (⟨"WhoseDelay", "back", "(I)I"⟩, prog_1_method_12_code, 3, some .int)
def mD_of : Md := (⟨"WhoseDelay", "of", "(II)I"⟩, prog_1_method_13_code, 4, some .int)
def mD_known : Md := (⟨"WhoseDelay", "known", "(I)I"⟩, prog_1_method_14_code, 2, some .int)
def mD_isDay : Md := (⟨"WhoseDelay", "isDay", "(I)Z"⟩, prog_1_method_42_code, 1, some .boolean)
def mE_knownOn : Md := (⟨"WhoseDelay$Events", "knownOn", "(I)I"⟩, prog_4_method_6_code, 4, some .int)
def mD_plan : Md := (⟨"WhoseDelay", "plan", "(III)I"⟩, prog_1_method_15_code, 4, some .int)
def mE_hold : Md := (⟨"WhoseDelay$Events", "hold", "(I)Z"⟩, prog_4_method_4_code, 2, some .boolean)
def mD_floatOf : Md := (⟨"WhoseDelay", "floatOf", "(II)I"⟩, prog_1_method_51_code, 9, some .int)
def mP_load : Md := (⟨"WhoseDelay$Plan", "load", "(LWhoseDelay$Site;I)V"⟩, prog_6_method_2_code, 6, none)
def mP_run : Md := (⟨"WhoseDelay$Plan", "run", "(LWhoseDelay$Site;)I"⟩, prog_6_method_3_code, 6, some .int)
def mW_readyBy : Md := (⟨"WhoseDelay$Works", "readyBy", "(I[I)I"⟩, prog_11_method_9_code, 6, some .int)
def mY_endOf : Md := (⟨"WhoseDelay$Days", "endOf", "(III)I"⟩, prog_3_method_5_code, 5, some .int)
def mY_byWeek : Md := (⟨"WhoseDelay$Days", "byWeek", "(II)I"⟩, prog_3_method_8_code, 7, some .int)
def mY_firstWith : Md := (⟨"WhoseDelay$Days", "firstWith", "(II)I"⟩, prog_3_method_9_code, 7, some .int)
def mD_endOf : Md := (⟨"WhoseDelay", "endOf", "(I)I"⟩, prog_1_method_50_code, 2, some .int)
def mD_end : Md := (⟨"WhoseDelay", "end", "(I)I"⟩, prog_1_method_16_code, 2, some .int)
def mD_chain : Md := (⟨"WhoseDelay", "chain", "(II)I"⟩, prog_1_method_17_code, 5, some .int)
def mP_lastWork : Md := (⟨"WhoseDelay$Plan", "lastWork", "(LWhoseDelay$Works;)I"⟩, prog_6_method_4_code, 4, some .int)
def mP_rulerOf : Md := (⟨"WhoseDelay$Plan", "rulerOf", "(ILWhoseDelay$Works;)I"⟩, prog_6_method_5_code, 5, some .int)
def mD_one : Md := (⟨"WhoseDelay", "one", "(II)I"⟩, prog_1_method_18_code, 4, some .int)
def mD_addedBy : Md := (⟨"WhoseDelay", "addedBy", "(II)I"⟩, prog_1_method_53_code, 4, some .int)
def mE_aheadOf : Md := (⟨"WhoseDelay$Events", "aheadOf", "(II)I"⟩, prog_4_method_9_code, 6, some .int)
def mD_lostBy : Md := (⟨"WhoseDelay", "lostBy", "(II)I"⟩, prog_1_method_52_code, 3, some .int)
def mD_without : Md := (⟨"WhoseDelay", "without", "(II)I"⟩, prog_1_method_19_code, 4, some .int)
def mD_butFor : Md := (⟨"WhoseDelay", "butFor", "(II)I"⟩, prog_1_method_20_code, 4, some .int)
def mE_ofCause : Md := (⟨"WhoseDelay$Events", "ofCause", "(II)I"⟩, prog_4_method_7_code, 5, some .int)
def mD_window : Md := (⟨"WhoseDelay", "window", "(IIII)I"⟩, prog_1_method_21_code, 10, some .int)
def mE_upTo : Md := (⟨"WhoseDelay$Events", "upTo", "(II)I"⟩, prog_4_method_8_code, 5, some .int)
def mD_partOf : Md := (⟨"WhoseDelay", "partOf", "(III)I"⟩, prog_1_method_54_code, 12, some .int)
def mE_daysTogether : Md := (⟨"WhoseDelay$Events", "daysTogether", "(I)I"⟩, prog_4_method_10_code, 4, some .int)
def mD_feed : Md := (⟨"WhoseDelay", "feed", "(JI)I"⟩, prog_1_method_22_code, 4, some .int)
def mC_take : Md := (⟨"WhoseDelay$Contract", "take", "(JI)I"⟩, prog_2_method_3_code, 5, some .int)
def mD_clause : Md := (⟨"WhoseDelay", "clause", "(II)I"⟩, prog_1_method_23_code, 5, some .int)
def mD_isUse : Md := (⟨"WhoseDelay", "isUse", "(I)Z"⟩, prog_1_method_45_code, 1, some .boolean)
def mR_read : Md := (⟨"WhoseDelay$Reader", "read", "([BII)I"⟩, prog_7_method_2_code, 5, some .int)
def mR_either : Md := (⟨"WhoseDelay$Reader", "either", "()I"⟩, prog_7_method_7_code, 4, some .int)
def mR_both : Md := (⟨"WhoseDelay$Reader", "both", "()I"⟩, prog_7_method_8_code, 4, some .int)
def mR_compared : Md := (⟨"WhoseDelay$Reader", "compared", "()I"⟩, prog_7_method_9_code, 2, some .int)
def mR_sum : Md := (⟨"WhoseDelay$Reader", "sum", "()I"⟩, prog_7_method_10_code, 3, some .int)
def mR_product : Md := (⟨"WhoseDelay$Reader", "product", "()I"⟩, prog_7_method_11_code, 4, some .int)
def mR_single : Md := (⟨"WhoseDelay$Reader", "single", "()I"⟩, prog_7_method_12_code, 3, some .int)
def mR_next : Md := (⟨"WhoseDelay$Reader", "next", "()I"⟩, prog_7_method_4_code, 1, some .int)
def mR_number : Md := (⟨"WhoseDelay$Reader", "number", "()I"⟩, prog_7_method_14_code, 3, some .int)
def mR_opened : Md := (⟨"WhoseDelay$Reader", "opened", "(I)I"⟩, prog_7_method_13_code, 3, some .int)
def mR_truth : Md := (⟨"WhoseDelay$Reader", "truth", "(Z)I"⟩, prog_7_method_6_code, 1, some .int)
def mR_skip : Md := (⟨"WhoseDelay$Reader", "skip", "(C)Z"⟩, prog_7_method_5_code, 2, some .boolean)
def mR_nameOf : Md := (⟨"WhoseDelay$Reader", "nameOf", "(I)I"⟩, prog_7_method_15_code, 1, some .int)
def mR_fault : Md := (⟨"WhoseDelay$Reader", "fault", "()I"⟩, prog_7_method_3_code, 1, some .int)
def mC_add : Md := (⟨"WhoseDelay$Contract", "add", "(II)I"⟩, prog_2_method_4_code, 3, some .int)
def mD_says : Md := (⟨"WhoseDelay", "says", "(II)I"⟩, prog_1_method_24_code, 3, some .int)
def mD_riskOf : Md := (⟨"WhoseDelay", "riskOf", "(I)I"⟩, prog_1_method_55_code, 4, some .int)
def mC_inForce : Md := (⟨"WhoseDelay$Contract", "inForce", "(II)I"⟩, prog_2_method_5_code, 4, some .int)
def mD_valueOf : Md := (⟨"WhoseDelay", "valueOf", "(II)I"⟩, prog_1_method_57_code, 5, some .int)
def mE_noticeAfter : Md := (⟨"WhoseDelay$Events", "noticeAfter", "(I)I"⟩, prog_4_method_11_code, 2, some .int)
def mD_knownToday : Md := (⟨"WhoseDelay", "knownToday", "()I"⟩, prog_1_method_49_code, 1, some .int)
def mE_meetsOther : Md := (⟨"WhoseDelay$Events", "meetsOther", "(II)Z"⟩, prog_4_method_12_code, 5, some .boolean)
def mC_mentions : Md := (⟨"WhoseDelay$Contract", "mentions", "(IC)Z"⟩, prog_2_method_6_code, 4, some .boolean)
def mJ_min : Md := (⟨"java/lang/Math", "min", "(II)I"⟩, prog_15_method_69_code, 2, some .int)
def mD_priceOf : Md := (⟨"WhoseDelay", "priceOf", "(I)I"⟩, prog_1_method_56_code, 3, some .int)
def mD_force : Md := (⟨"WhoseDelay", "force", "(II)I"⟩, prog_1_method_25_code, 4, some .int)
def mD_claim : Md := (⟨"WhoseDelay", "claim", "(I)I"⟩, prog_1_method_26_code, 2, some .int)
def mD_bearing : Md := (⟨"WhoseDelay", "bearing", "(I)I"⟩, prog_1_method_58_code, 5, some .int)
def mD_paidFor : Md := (⟨"WhoseDelay", "paidFor", "(I)I"⟩, prog_1_method_59_code, 4, some .int)
def mD_twoAtOnce : Md := (⟨"WhoseDelay", "twoAtOnce", "()I"⟩, prog_1_method_60_code, 4, some .int)
def mD_hurry : Md := (⟨"WhoseDelay", "hurry", "(III)I"⟩, prog_1_method_27_code, 5, some .int)
def mH_add : Md := (⟨"WhoseDelay$Haste", "add", "(III)I"⟩, prog_5_method_3_code, 4, some .int)
def mD_calm : Md := (⟨"WhoseDelay", "calm", "()I"⟩, prog_1_method_28_code, 2, some .int)
def mD_least : Md := (⟨"WhoseDelay", "least", "(II)I"⟩, prog_1_method_29_code, 4, some .int)
def mD_cheapest : Md := (⟨"WhoseDelay", "cheapest", "(I)I"⟩, prog_1_method_62_code, 7, some .int)
def mH_sumOf : Md := (⟨"WhoseDelay$Haste", "sumOf", "([I)I"⟩, prog_5_method_5_code, 4, some .int)
def mD_endHurried : Md := (⟨"WhoseDelay", "endHurried", "([II)I"⟩, prog_1_method_61_code, 4, some .int)
def mH_next : Md := (⟨"WhoseDelay$Haste", "next", "([I)Z"⟩, prog_5_method_6_code, 3, some .boolean)
def mD_proves : Md := (⟨"WhoseDelay", "proves", "(III)I"⟩, prog_1_method_30_code, 6, some .int)
def mD_isSheet : Md := (⟨"WhoseDelay", "isSheet", "(I)Z"⟩, prog_1_method_46_code, 1, some .boolean)
def mH_firstWrong : Md := (⟨"WhoseDelay$Haste", "firstWrong", "(LWhoseDelay$Sheet;)I"⟩, prog_5_method_7_code, 3, some .int)
def mD_voice : Md := (⟨"WhoseDelay", "voice", "(III)I"⟩, prog_1_method_31_code, 4, some .int)
def mV_begin : Md := (⟨"WhoseDelay$Voices", "begin", "(IIIII)I"⟩, prog_10_method_2_code, 6, some .int)
def mV_call : Md := (⟨"WhoseDelay$Voices", "call", "(IIII)I"⟩, prog_10_method_3_code, 8, some .int)
def mV_speak : Md := (⟨"WhoseDelay$Voices", "speak", "(III)I"⟩, prog_10_method_4_code, 5, some .int)
def mD_trace : Md := (⟨"WhoseDelay", "trace", "(I)I"⟩, prog_1_method_32_code, 2, some .int)
def mD_sheet : Md := (⟨"WhoseDelay", "sheet", "(III)I"⟩, prog_1_method_33_code, 4, some .int)
def mS_renew : Md := (⟨"WhoseDelay$Sheet", "renew", "(II)V"⟩, prog_8_method_2_code, 4, none)
def mD_put : Md := (⟨"WhoseDelay", "put", "(III)I"⟩, prog_1_method_34_code, 5, some .int)
def mS_cut : Md := (⟨"WhoseDelay$Sheet", "cut", "(I)I"⟩, prog_8_method_3_code, 2, some .int)
def mD_move : Md := (⟨"WhoseDelay", "move", "(IIIII)I"⟩, prog_1_method_35_code, 8, some .int)
def mD_image : Md := (⟨"WhoseDelay", "image", "()I"⟩, prog_1_method_36_code, 1, some .int)
def mT_copy : Md := (⟨"WhoseDelay$Site", "copy", "(LWhoseDelay$Site;)V"⟩, prog_9_method_2_code, 2, none)
def mY_copy : Md := (⟨"WhoseDelay$Days", "copy", "(LWhoseDelay$Days;)V"⟩, prog_3_method_2_code, 2, none)
def mW_copy : Md := (⟨"WhoseDelay$Works", "copy", "(LWhoseDelay$Works;)V"⟩, prog_11_method_2_code, 2, none)
def mE_copy : Md := (⟨"WhoseDelay$Events", "copy", "(LWhoseDelay$Events;)V"⟩, prog_4_method_2_code, 2, none)
def mC_copy : Md := (⟨"WhoseDelay$Contract", "copy", "(LWhoseDelay$Contract;)V"⟩, prog_2_method_2_code, 2, none)
def mH_copy : Md := (⟨"WhoseDelay$Haste", "copy", "(LWhoseDelay$Haste;)V"⟩, prog_5_method_2_code, 2, none)
def mD_restore : Md := (⟨"WhoseDelay", "restore", "()I"⟩, prog_1_method_37_code, 1, some .int)
def mD_told : Md := (⟨"WhoseDelay", "told", "(I)I"⟩, prog_1_method_38_code, 2, some .int)
def mD_found : Md := (⟨"WhoseDelay", "found", "(I)I"⟩, prog_1_method_39_code, 2, some .int)
def mM_init : Md := (⟨"WhoseDelayModel", "<init>", "()V"⟩, prog_13_method_1_code, 1, none)
def mM_changed : Md := (⟨"WhoseDelayModel", "changed", "()V"⟩, prog_13_method_32_code, 2, none)
def mM_work : Md := (⟨"WhoseDelayModel", "work", "(II)I"⟩, prog_13_method_11_code, 4, some .int)
def mM_within : Md := (⟨"WhoseDelayModel", "within", "(JJJ)Z"⟩, prog_13_method_3_code, 6, some .boolean)
def mM_finding : Md := (⟨"WhoseDelayModel", "finding", "(I)I"⟩, prog_13_method_2_code, 2, some .int)
def mM_as : Md := (⟨"WhoseDelayModel", "as", "(II)I"⟩, prog_13_method_13_code, 4, some .int)
def mM_is : Md := (⟨"WhoseDelayModel", "is", "(II)Z"⟩, prog_13_method_4_code, 3, some .boolean)
def mM_kindOf : Md := (⟨"WhoseDelayModel", "kindOf", "(I)I"⟩, prog_13_method_8_code, 2, some .int)
def mM_above : Md := (⟨"WhoseDelayModel", "above", "(I)I"⟩, prog_13_method_12_code, 1, some .int)
def mM_longOf : Md := (⟨"WhoseDelayModel", "longOf", "(I)I"⟩, prog_13_method_9_code, 2, some .int)
def mM_edit : Md := (⟨"WhoseDelayModel", "edit", "(II)I"⟩, prog_13_method_15_code, 4, some .int)
def mM_hurried : Md := (⟨"WhoseDelayModel", "hurried", "(I)I"⟩, prog_13_method_14_code, 4, some .int)
def mM_link : Md := (⟨"WhoseDelayModel", "link", "(III)I"⟩, prog_13_method_18_code, 5, some .int)
def mM_linkAt : Md := (⟨"WhoseDelayModel", "linkAt", "(II)I"⟩, prog_13_method_16_code, 4, some .int)
def mM_leads : Md := (⟨"WhoseDelayModel", "leads", "(II)Z"⟩, prog_13_method_17_code, 6, some .boolean)
def mM_has : Md := (⟨"WhoseDelayModel", "has", "(II)Z"⟩, prog_13_method_7_code, 2, some .boolean)
def mM_unlink : Md := (⟨"WhoseDelayModel", "unlink", "(II)I"⟩, prog_13_method_19_code, 6, some .int)
def mM_week : Md := (⟨"WhoseDelayModel", "week", "(I)I"⟩, prog_13_method_20_code, 3, some .int)
def mM_rain : Md := (⟨"WhoseDelayModel", "rain", "(IIZ)I"⟩, prog_13_method_21_code, 6, some .int)
def mM_today : Md := (⟨"WhoseDelayModel", "today", "(I)I"⟩, prog_13_method_22_code, 3, some .int)
def mM_event3 : Md := (⟨"WhoseDelayModel", "event", "(III)I"⟩, prog_13_method_23_code, 6, some .int)
def mM_notice : Md := (⟨"WhoseDelayModel", "notice", "(II)I"⟩, prog_13_method_24_code, 3, some .int)
def mM_event2 : Md := (⟨"WhoseDelayModel", "event", "(II)I"⟩, prog_13_method_10_code, 3, some .int)
def mM_back : Md := (⟨"WhoseDelayModel", "back", "(I)I"⟩, prog_13_method_25_code, 2, some .int)
def mM_of : Md := (⟨"WhoseDelayModel", "of", "(II)I"⟩, prog_13_method_26_code, 3, some .int)
def mM_known : Md := (⟨"WhoseDelayModel", "known", "(I)I"⟩, prog_13_method_29_code, 2, some .int)
def mM_isDay : Md := (⟨"WhoseDelayModel", "isDay", "(I)Z"⟩, prog_13_method_28_code, 1, some .boolean)
def mM_knownOn : Md := (⟨"WhoseDelayModel", "knownOn", "(I)I"⟩, prog_13_method_27_code, 5, some .int)
def mM_plan : Md := (⟨"WhoseDelayModel", "plan", "(III)I"⟩, prog_13_method_40_code, 5, some .int)
def mM_areEvents : Md := (⟨"WhoseDelayModel", "areEvents", "(I)Z"⟩, prog_13_method_30_code, 2, some .boolean)
def mM_slackOf : Md := (⟨"WhoseDelayModel", "slackOf", "(II)I"⟩, prog_13_method_38_code, 8, some .int)
def mM_endBy : Md := (⟨"WhoseDelayModel", "endBy", "(I)I"⟩, prog_13_method_37_code, 2, some .int)
def mM_needBy : Md := (⟨"WhoseDelayModel", "needBy", "(I)V"⟩, prog_13_method_36_code, 3, none)
def mM_goThrough : Md := (⟨"WhoseDelayModel", "goThrough", "()I"⟩, prog_13_method_35_code, 6, some .int)
def mM_sort : Md := (⟨"WhoseDelayModel", "sort", "()V"⟩, prog_13_method_33_code, 6, none)
def mM_endOf : Md := (⟨"WhoseDelayModel", "endOf", "(III)I"⟩, prog_13_method_34_code, 7, some .int)
def mM_goesOn : Md := (⟨"WhoseDelayModel", "goesOn", "(II)Z"⟩, prog_13_method_31_code, 6, some .boolean)
def mM_end : Md := (⟨"WhoseDelayModel", "end", "(I)I"⟩, prog_13_method_41_code, 2, some .int)
def mM_chain : Md := (⟨"WhoseDelayModel", "chain", "(II)I"⟩, prog_13_method_42_code, 10, some .int)
def mM_one : Md := (⟨"WhoseDelayModel", "one", "(II)I"⟩, prog_13_method_45_code, 4, some .int)
def mM_step : Md := (⟨"WhoseDelayModel", "step", "(II)I"⟩, prog_13_method_44_code, 5, some .int)
def mM_isAhead : Md := (⟨"WhoseDelayModel", "isAhead", "(II)Z"⟩, prog_13_method_43_code, 3, some .boolean)
def mM_without : Md := (⟨"WhoseDelayModel", "without", "(II)I"⟩, prog_13_method_46_code, 4, some .int)
def mM_butFor : Md := (⟨"WhoseDelayModel", "butFor", "(II)I"⟩, prog_13_method_47_code, 6, some .int)
def mM_window : Md := (⟨"WhoseDelayModel", "window", "(IIII)I"⟩, prog_13_method_48_code, 10, some .int)
def mM_partOf : Md := (⟨"WhoseDelayModel", "partOf", "(III)I"⟩, prog_13_method_49_code, 9, some .int)
def mM_feed : Md := (⟨"WhoseDelayModel", "feed", "(JI)I"⟩, prog_13_method_50_code, 5, some .int)
def mM_clause : Md := (⟨"WhoseDelayModel", "clause", "(II)I"⟩, prog_13_method_61_code, 6, some .int)
def mM_either : Md := (⟨"WhoseDelayModel", "either", "()V"⟩, prog_13_method_53_code, 1, none)
def mM_both : Md := (⟨"WhoseDelayModel", "both", "()V"⟩, prog_13_method_54_code, 1, none)
def mM_test : Md := (⟨"WhoseDelayModel", "test", "()V"⟩, prog_13_method_55_code, 2, none)
def mM_sum : Md := (⟨"WhoseDelayModel", "sum", "()V"⟩, prog_13_method_56_code, 2, none)
def mM_product : Md := (⟨"WhoseDelayModel", "product", "()V"⟩, prog_13_method_57_code, 2, none)
def mM_part : Md := (⟨"WhoseDelayModel", "part", "()V"⟩, prog_13_method_60_code, 4, none)
def mM_here : Md := (⟨"WhoseDelayModel", "here", "()I"⟩, prog_13_method_51_code, 1, some .int)
def mM_opens : Md := (⟨"WhoseDelayModel", "opens", "()Z"⟩, prog_13_method_59_code, 1, some .boolean)
def mM_put1 : Md := (⟨"WhoseDelayModel", "put", "(I)V"⟩, prog_13_method_52_code, 2, none)
def mM_nameOf : Md := (⟨"WhoseDelayModel", "nameOf", "(I)I"⟩, prog_13_method_58_code, 1, some .int)
def mM_force : Md := (⟨"WhoseDelayModel", "force", "(II)I"⟩, prog_13_method_63_code, 4, some .int)
def mM_forced : Md := (⟨"WhoseDelayModel", "forced", "(II)I"⟩, prog_13_method_62_code, 6, some .int)
def mM_says : Md := (⟨"WhoseDelayModel", "says", "(II)I"⟩, prog_13_method_69_code, 3, some .int)
def mM_saidOf : Md := (⟨"WhoseDelayModel", "saidOf", "(II)I"⟩, prog_13_method_68_code, 5, some .int)
def mM_worked : Md := (⟨"WhoseDelayModel", "worked", "(II)I"⟩, prog_13_method_67_code, 7, some .int)
def mM_named : Md := (⟨"WhoseDelayModel", "named", "(II)I"⟩, prog_13_method_65_code, 3, some .int)
def mM_isTwo : Md := (⟨"WhoseDelayModel", "isTwo", "(I)Z"⟩, prog_13_method_64_code, 6, some .boolean)
def mM_floatOf : Md := (⟨"WhoseDelayModel", "floatOf", "(I)I"⟩, prog_13_method_39_code, 2, some .int)
def mM_done : Md := (⟨"WhoseDelayModel", "done", "(III)I"⟩, prog_13_method_66_code, 3, some .int)
def mM_claim : Md := (⟨"WhoseDelayModel", "claim", "(I)I"⟩, prog_13_method_72_code, 6, some .int)
def mM_withRisk : Md := (⟨"WhoseDelayModel", "withRisk", "(I)I"⟩, prog_13_method_70_code, 5, some .int)
def mM_paid : Md := (⟨"WhoseDelayModel", "paid", "()I"⟩, prog_13_method_71_code, 4, some .int)
def mM_hurry : Md := (⟨"WhoseDelayModel", "hurry", "(III)I"⟩, prog_13_method_73_code, 5, some .int)
def mM_calm : Md := (⟨"WhoseDelayModel", "calm", "()I"⟩, prog_13_method_74_code, 2, some .int)
def mM_least : Md := (⟨"WhoseDelayModel", "least", "(II)I"⟩, prog_13_method_78_code, 4, some .int)
def mM_leastFor : Md := (⟨"WhoseDelayModel", "leastFor", "(I)I"⟩, prog_13_method_77_code, 6, some .int)
def mM_sumHurried : Md := (⟨"WhoseDelayModel", "sumHurried", "()I"⟩, prog_13_method_76_code, 3, some .int)
def mM_endHurried : Md := (⟨"WhoseDelayModel", "endHurried", "()I"⟩, prog_13_method_75_code, 2, some .int)
def mM_proves : Md := (⟨"WhoseDelayModel", "proves", "(III)I"⟩, prog_13_method_79_code, 5, some .int)
def mM_isSheet : Md := (⟨"WhoseDelayModel", "isSheet", "(I)Z"⟩, prog_13_method_5_code, 1, some .boolean)
def mM_voice : Md := (⟨"WhoseDelayModel", "voice", "(III)I"⟩, prog_13_method_85_code, 4, some .int)
def mM_voiced : Md := (⟨"WhoseDelayModel", "voiced", "(II)I"⟩, prog_13_method_82_code, 3, some .int)
def mM_bodyFrom : Md := (⟨"WhoseDelayModel", "bodyFrom", "(III)I"⟩, prog_13_method_83_code, 5, some .int)
def mM_hasOwn : Md := (⟨"WhoseDelayModel", "hasOwn", "(II)Z"⟩, prog_13_method_81_code, 2, some .boolean)
def mM_body : Md := (⟨"WhoseDelayModel", "body", "(III)I"⟩, prog_13_method_84_code, 6, some .int)
def mM_began : Md := (⟨"WhoseDelayModel", "began", "(I)V"⟩, prog_13_method_80_code, 2, none)
def mM_trace : Md := (⟨"WhoseDelayModel", "trace", "(I)I"⟩, prog_13_method_86_code, 2, some .int)
def mM_sheet : Md := (⟨"WhoseDelayModel", "sheet", "(III)I"⟩, prog_13_method_87_code, 5, some .int)
def mM_isWidth : Md := (⟨"WhoseDelayModel", "isWidth", "(I)Z"⟩, prog_13_method_6_code, 1, some .boolean)
def mM_put3 : Md := (⟨"WhoseDelayModel", "put", "(III)I"⟩, prog_13_method_88_code, 4, some .int)
def mM_move : Md := (⟨"WhoseDelayModel", "move", "(IIIII)I"⟩, prog_13_method_89_code, 7, some .int)
def mM_image : Md := (⟨"WhoseDelayModel", "image", "()I"⟩, prog_13_method_90_code, 2, some .int)
def mM_restore : Md := (⟨"WhoseDelayModel", "restore", "()I"⟩, prog_13_method_91_code, 2, some .int)
def mM_told : Md := (⟨"WhoseDelayModel", "told", "(I)I"⟩, prog_13_method_92_code, 4, some .int)
def mM_found : Md := (⟨"WhoseDelayModel", "found", "(I)I"⟩, prog_13_method_93_code, 2, some .int)
def mL_law : Md := (⟨"WhoseDelayLaw", "law", "([I)Z"⟩, code, 4, some .boolean)
theorem cl_0 : vwCl[0]? = some ("WhoseDelay$Contract", TX0, 7) := rfl
theorem cl_1 : vwCl[1]? = some ("WhoseDelay$Days", TX1, 5) := rfl
theorem cl_2 : vwCl[2]? = some ("WhoseDelay$Events", TX2, 8) := rfl
theorem cl_3 : vwCl[3]? = some ("WhoseDelay$Haste", TX3, 4) := rfl
theorem cl_4 : vwCl[4]? = some ("WhoseDelay$Plan", TX4, 3) := rfl
theorem cl_5 : vwCl[5]? = some ("WhoseDelay$Reader", TX5, 7) := rfl
theorem cl_6 : vwCl[6]? = some ("WhoseDelay$Sheet", TX6, 3) := rfl
theorem cl_7 : vwCl[7]? = some ("WhoseDelay$Site", TX7, 6) := rfl
theorem cl_8 : vwCl[8]? = some ("WhoseDelay$Voices", TX8, 5) := rfl
theorem cl_9 : vwCl[9]? = some ("WhoseDelay$Works", TX9, 8) := rfl
theorem cl_10 : vwCl[10]? = some ("WhoseDelay", TX10, 10) := rfl
theorem cl_11 : vwCl[11]? = some ("WhoseDelayModel", TX11, 26) := rfl
theorem mO_D_init : mOK mD_init 0 := ⟨by decide +kernel, gw_t1 20 rfl (by decide +kernel), gw_t1 1 (by decide +kernel) (by decide +kernel), ⟨by decide +kernel, by decide +kernel, by decide +kernel⟩, by decide +kernel⟩
theorem mO_T_init : mOK mT_init 0 := ⟨by decide +kernel, gw_t1 28 rfl (by decide +kernel), gw_t1 2 (by decide +kernel) (by decide +kernel), ⟨by decide +kernel, by decide +kernel, by decide +kernel⟩, by decide +kernel⟩
theorem mO_Y_init : mOK mY_init 0 := ⟨by decide +kernel, gw_t1 34 rfl (by decide +kernel), gw_t1 3 (by decide +kernel) (by decide +kernel), ⟨by decide +kernel, by decide +kernel, by decide +kernel⟩, by decide +kernel⟩
theorem mO_J_bitCount : mOK mJ_bitCount 1 := ⟨by decide +kernel, gw_t1 38 rfl (by decide +kernel), gw_t1 4 (by decide +kernel) (by decide +kernel), ⟨by decide +kernel, by decide +kernel, by decide +kernel⟩, by decide +kernel⟩
theorem mO_Y_countDry : mOK mY_countDry 1 := ⟨by decide +kernel, gw_t1 45 rfl (by decide +kernel), gw_t1 3 (by decide +kernel) (by decide +kernel), ⟨by decide +kernel, by decide +kernel, by decide +kernel⟩, by decide +kernel⟩
theorem mO_D_holds : mOK mD_holds 2 := ⟨by decide +kernel, gw_t1 48 rfl (by decide +kernel), gw_t1 1 (by decide +kernel) (by decide +kernel), ⟨by decide +kernel, by decide +kernel, by decide +kernel⟩, by decide +kernel⟩
theorem mO_Y_isWet : mOK mY_isWet 1 := ⟨by decide +kernel, gw_t1 52 rfl (by decide +kernel), gw_t1 3 (by decide +kernel) (by decide +kernel), ⟨by decide +kernel, by decide +kernel, by decide +kernel⟩, by decide +kernel⟩
theorem mO_W_init : mOK mW_init 0 := ⟨by decide +kernel, gw_t1 76 rfl (by decide +kernel), gw_t1 5 (by decide +kernel) (by decide +kernel), ⟨by decide +kernel, by decide +kernel, by decide +kernel⟩, by decide +kernel⟩
theorem mO_E_init : mOK mE_init 0 := ⟨by decide +kernel, gw_t1 117 rfl (by decide +kernel), gw_t1 6 (by decide +kernel) (by decide +kernel), ⟨by decide +kernel, by decide +kernel, by decide +kernel⟩, by decide +kernel⟩
theorem mO_C_init : mOK mC_init 0 := ⟨by decide +kernel, gw_t1 159 rfl (by decide +kernel), gw_t1 7 (by decide +kernel) (by decide +kernel), ⟨by decide +kernel, by decide +kernel, by decide +kernel⟩, by decide +kernel⟩
theorem mO_H_init : mOK mH_init 0 := ⟨by decide +kernel, gw_t1 193 rfl (by decide +kernel), gw_t1 8 (by decide +kernel) (by decide +kernel), ⟨by decide +kernel, by decide +kernel, by decide +kernel⟩, by decide +kernel⟩
theorem mO_P_init : mOK mP_init 0 := ⟨by decide +kernel, gw_t2 2 rfl (by decide +kernel), gw_t1 9 (by decide +kernel) (by decide +kernel), ⟨by decide +kernel, by decide +kernel, by decide +kernel⟩, by decide +kernel⟩
theorem mO_R_init : mOK mR_init 0 := ⟨by decide +kernel, gw_t2 21 rfl (by decide +kernel), gw_t1 10 (by decide +kernel) (by decide +kernel), ⟨by decide +kernel, by decide +kernel, by decide +kernel⟩, by decide +kernel⟩
theorem mO_V_init : mOK mV_init 0 := ⟨by decide +kernel, gw_t2 50 rfl (by decide +kernel), gw_t1 11 (by decide +kernel) (by decide +kernel), ⟨by decide +kernel, by decide +kernel, by decide +kernel⟩, by decide +kernel⟩
theorem mO_S_init : mOK mS_init 0 := ⟨by decide +kernel, gw_t2 75 rfl (by decide +kernel), gw_t1 12 (by decide +kernel) (by decide +kernel), ⟨by decide +kernel, by decide +kernel, by decide +kernel⟩, by decide +kernel⟩
theorem mO_D_work : mOK mD_work 2 := ⟨by decide +kernel, gw_t2 126 rfl (by decide +kernel), gw_t1 1 (by decide +kernel) (by decide +kernel), ⟨by decide +kernel, by decide +kernel, by decide +kernel⟩, by decide +kernel⟩
theorem mO_D_isKind : mOK mD_isKind 1 := ⟨by decide +kernel, gw_t2 129 rfl (by decide +kernel), gw_t1 1 (by decide +kernel) (by decide +kernel), ⟨by decide +kernel, by decide +kernel, by decide +kernel⟩, by decide +kernel⟩
theorem mO_D_within : mOK mD_within 3 := ⟨by decide +kernel, gw_t2 132 rfl (by decide +kernel), gw_t1 1 (by decide +kernel) (by decide +kernel), ⟨by decide +kernel, by decide +kernel, by decide +kernel⟩, by decide +kernel⟩
theorem mO_D_finding : mOK mD_finding 1 := ⟨by decide +kernel, gw_t2 137 rfl (by decide +kernel), gw_t1 1 (by decide +kernel) (by decide +kernel), ⟨by decide +kernel, by decide +kernel, by decide +kernel⟩, by decide +kernel⟩
theorem mO_W_add : mOK mW_add 2 := ⟨by decide +kernel, gw_t2 143 rfl (by decide +kernel), gw_t1 5 (by decide +kernel) (by decide +kernel), ⟨by decide +kernel, by decide +kernel, by decide +kernel⟩, by decide +kernel⟩
theorem mO_D_as : mOK mD_as 2 := ⟨by decide +kernel, gw_t2 147 rfl (by decide +kernel), gw_t1 1 (by decide +kernel) (by decide +kernel), ⟨by decide +kernel, by decide +kernel, by decide +kernel⟩, by decide +kernel⟩
theorem mO_W_has : mOK mW_has 1 := ⟨by decide +kernel, gw_t2 151 rfl (by decide +kernel), gw_t1 5 (by decide +kernel) (by decide +kernel), ⟨by decide +kernel, by decide +kernel, by decide +kernel⟩, by decide +kernel⟩
theorem mO_D_isUnder : mOK mD_isUnder 2 := ⟨by decide +kernel, gw_t2 154 rfl (by decide +kernel), gw_t1 1 (by decide +kernel) (by decide +kernel), ⟨by decide +kernel, by decide +kernel, by decide +kernel⟩, by decide +kernel⟩
theorem mO_D_edit : mOK mD_edit 2 := ⟨by decide +kernel, gw_t2 161 rfl (by decide +kernel), gw_t1 1 (by decide +kernel) (by decide +kernel), ⟨by decide +kernel, by decide +kernel, by decide +kernel⟩, by decide +kernel⟩
theorem mO_H_mostOf : mOK mH_mostOf 1 := ⟨by decide +kernel, gw_t2 165 rfl (by decide +kernel), gw_t1 8 (by decide +kernel) (by decide +kernel), ⟨by decide +kernel, by decide +kernel, by decide +kernel⟩, by decide +kernel⟩
theorem mO_D_link : mOK mD_link 3 := ⟨by decide +kernel, gw_t2 170 rfl (by decide +kernel), gw_t1 1 (by decide +kernel) (by decide +kernel), ⟨by decide +kernel, by decide +kernel, by decide +kernel⟩, by decide +kernel⟩
theorem mO_W_linked : mOK mW_linked 2 := ⟨by decide +kernel, gw_t2 174 rfl (by decide +kernel), gw_t1 5 (by decide +kernel) (by decide +kernel), ⟨by decide +kernel, by decide +kernel, by decide +kernel⟩, by decide +kernel⟩
theorem mO_W_leadsTo : mOK mW_leadsTo 2 := ⟨by decide +kernel, gw_t2 179 rfl (by decide +kernel), gw_t1 5 (by decide +kernel) (by decide +kernel), ⟨by decide +kernel, by decide +kernel, by decide +kernel⟩, by decide +kernel⟩
theorem mO_W_join : mOK mW_join 3 := ⟨by decide +kernel, gw_t2 183 rfl (by decide +kernel), gw_t1 5 (by decide +kernel) (by decide +kernel), ⟨by decide +kernel, by decide +kernel, by decide +kernel⟩, by decide +kernel⟩
theorem mO_W_arrange : mOK mW_arrange 0 := ⟨by decide +kernel, gw_t2 187 rfl (by decide +kernel), gw_t1 5 (by decide +kernel) (by decide +kernel), ⟨by decide +kernel, by decide +kernel, by decide +kernel⟩, by decide +kernel⟩
theorem mO_W_nextAfter : mOK mW_nextAfter 1 := ⟨by decide +kernel, gw_t2 191 rfl (by decide +kernel), gw_t1 5 (by decide +kernel) (by decide +kernel), ⟨by decide +kernel, by decide +kernel, by decide +kernel⟩, by decide +kernel⟩
theorem mO_D_unlink : mOK mD_unlink 2 := ⟨by decide +kernel, gw_t2 195 rfl (by decide +kernel), gw_t1 1 (by decide +kernel) (by decide +kernel), ⟨by decide +kernel, by decide +kernel, by decide +kernel⟩, by decide +kernel⟩
theorem mO_W_loosen : mOK mW_loosen 2 := ⟨by decide +kernel, gw_t2 200 rfl (by decide +kernel), gw_t1 5 (by decide +kernel) (by decide +kernel), ⟨by decide +kernel, by decide +kernel, by decide +kernel⟩, by decide +kernel⟩
theorem mO_D_week : mOK mD_week 1 := ⟨by decide +kernel, gw_t2 204 rfl (by decide +kernel), gw_t1 1 (by decide +kernel) (by decide +kernel), ⟨by decide +kernel, by decide +kernel, by decide +kernel⟩, by decide +kernel⟩
theorem mO_Y_turnWeek : mOK mY_turnWeek 1 := ⟨by decide +kernel, gw_t2 208 rfl (by decide +kernel), gw_t1 3 (by decide +kernel) (by decide +kernel), ⟨by decide +kernel, by decide +kernel, by decide +kernel⟩, by decide +kernel⟩
theorem mO_D_rain : mOK mD_rain 3 := ⟨by decide +kernel, gw_t2 215 rfl (by decide +kernel), gw_t1 1 (by decide +kernel) (by decide +kernel), ⟨by decide +kernel, by decide +kernel, by decide +kernel⟩, by decide +kernel⟩
theorem mO_Y_turnRain : mOK mY_turnRain 3 := ⟨by decide +kernel, gw_t2 219 rfl (by decide +kernel), gw_t1 3 (by decide +kernel) (by decide +kernel), ⟨by decide +kernel, by decide +kernel, by decide +kernel⟩, by decide +kernel⟩
theorem mO_D_today : mOK mD_today 1 := ⟨by decide +kernel, gw_t2 223 rfl (by decide +kernel), gw_t1 1 (by decide +kernel) (by decide +kernel), ⟨by decide +kernel, by decide +kernel, by decide +kernel⟩, by decide +kernel⟩
theorem mO_D_event : mOK mD_event 3 := ⟨by decide +kernel, gw_t2 227 rfl (by decide +kernel), gw_t1 1 (by decide +kernel) (by decide +kernel), ⟨by decide +kernel, by decide +kernel, by decide +kernel⟩, by decide +kernel⟩
theorem mO_D_isCause : mOK mD_isCause 1 := ⟨by decide +kernel, gw_t2 230 rfl (by decide +kernel), gw_t1 1 (by decide +kernel) (by decide +kernel), ⟨by decide +kernel, by decide +kernel, by decide +kernel⟩, by decide +kernel⟩
theorem mO_E_add : mOK mE_add 4 := ⟨by decide +kernel, gw_t2 234 rfl (by decide +kernel), gw_t1 6 (by decide +kernel) (by decide +kernel), ⟨by decide +kernel, by decide +kernel, by decide +kernel⟩, by decide +kernel⟩
theorem mO_D_notice : mOK mD_notice 2 := ⟨by decide +kernel, gw_t2 238 rfl (by decide +kernel), gw_t1 1 (by decide +kernel) (by decide +kernel), ⟨by decide +kernel, by decide +kernel, by decide +kernel⟩, by decide +kernel⟩
theorem mO_E_has : mOK mE_has 1 := ⟨by decide +kernel, gw_t3 2 rfl (by decide +kernel), gw_t1 6 (by decide +kernel) (by decide +kernel), ⟨by decide +kernel, by decide +kernel, by decide +kernel⟩, by decide +kernel⟩
theorem mO_D_back : mOK mD_back 1 := ⟨by decide +kernel, gw_t3 6 rfl (by decide +kernel), gw_t1 1 (by decide +kernel) (by decide +kernel), ⟨by decide +kernel, by decide +kernel, by decide +kernel⟩, by decide +kernel⟩
theorem mO_D_of : mOK mD_of 2 := ⟨by decide +kernel, gw_t3 10 rfl (by decide +kernel), gw_t1 1 (by decide +kernel) (by decide +kernel), ⟨by decide +kernel, by decide +kernel, by decide +kernel⟩, by decide +kernel⟩
theorem mO_D_known : mOK mD_known 1 := ⟨by decide +kernel, gw_t3 14 rfl (by decide +kernel), gw_t1 1 (by decide +kernel) (by decide +kernel), ⟨by decide +kernel, by decide +kernel, by decide +kernel⟩, by decide +kernel⟩
theorem mO_D_isDay : mOK mD_isDay 1 := ⟨by decide +kernel, gw_t3 17 rfl (by decide +kernel), gw_t1 1 (by decide +kernel) (by decide +kernel), ⟨by decide +kernel, by decide +kernel, by decide +kernel⟩, by decide +kernel⟩
theorem mO_E_knownOn : mOK mE_knownOn 1 := ⟨by decide +kernel, gw_t3 21 rfl (by decide +kernel), gw_t1 6 (by decide +kernel) (by decide +kernel), ⟨by decide +kernel, by decide +kernel, by decide +kernel⟩, by decide +kernel⟩
theorem mO_D_plan : mOK mD_plan 3 := ⟨by decide +kernel, gw_t3 25 rfl (by decide +kernel), gw_t1 1 (by decide +kernel) (by decide +kernel), ⟨by decide +kernel, by decide +kernel, by decide +kernel⟩, by decide +kernel⟩
theorem mO_E_hold : mOK mE_hold 1 := ⟨by decide +kernel, gw_t3 29 rfl (by decide +kernel), gw_t1 6 (by decide +kernel) (by decide +kernel), ⟨by decide +kernel, by decide +kernel, by decide +kernel⟩, by decide +kernel⟩
theorem mO_D_floatOf : mOK mD_floatOf 2 := ⟨by decide +kernel, gw_t3 33 rfl (by decide +kernel), gw_t1 1 (by decide +kernel) (by decide +kernel), ⟨by decide +kernel, by decide +kernel, by decide +kernel⟩, by decide +kernel⟩
theorem mO_P_load : mOK mP_load 2 := ⟨by decide +kernel, gw_t3 37 rfl (by decide +kernel), gw_t1 9 (by decide +kernel) (by decide +kernel), ⟨by decide +kernel, by decide +kernel, by decide +kernel⟩, by decide +kernel⟩
theorem mO_P_run : mOK mP_run 1 := ⟨by decide +kernel, gw_t3 45 rfl (by decide +kernel), gw_t1 9 (by decide +kernel) (by decide +kernel), ⟨by decide +kernel, by decide +kernel, by decide +kernel⟩, by decide +kernel⟩
theorem mO_W_readyBy : mOK mW_readyBy 2 := ⟨by decide +kernel, gw_t3 49 rfl (by decide +kernel), gw_t1 5 (by decide +kernel) (by decide +kernel), ⟨by decide +kernel, by decide +kernel, by decide +kernel⟩, by decide +kernel⟩
theorem mO_Y_endOf : mOK mY_endOf 3 := ⟨by decide +kernel, gw_t3 54 rfl (by decide +kernel), gw_t1 3 (by decide +kernel) (by decide +kernel), ⟨by decide +kernel, by decide +kernel, by decide +kernel⟩, by decide +kernel⟩
theorem mO_Y_byWeek : mOK mY_byWeek 2 := ⟨by decide +kernel, gw_t3 58 rfl (by decide +kernel), gw_t1 3 (by decide +kernel) (by decide +kernel), ⟨by decide +kernel, by decide +kernel, by decide +kernel⟩, by decide +kernel⟩
theorem mO_Y_firstWith : mOK mY_firstWith 2 := ⟨by decide +kernel, gw_t3 62 rfl (by decide +kernel), gw_t1 3 (by decide +kernel) (by decide +kernel), ⟨by decide +kernel, by decide +kernel, by decide +kernel⟩, by decide +kernel⟩
theorem mO_D_endOf : mOK mD_endOf 1 := ⟨by decide +kernel, gw_t3 67 rfl (by decide +kernel), gw_t1 1 (by decide +kernel) (by decide +kernel), ⟨by decide +kernel, by decide +kernel, by decide +kernel⟩, by decide +kernel⟩
theorem mO_D_end : mOK mD_end 1 := ⟨by decide +kernel, gw_t3 71 rfl (by decide +kernel), gw_t1 1 (by decide +kernel) (by decide +kernel), ⟨by decide +kernel, by decide +kernel, by decide +kernel⟩, by decide +kernel⟩
theorem mO_D_chain : mOK mD_chain 2 := ⟨by decide +kernel, gw_t3 75 rfl (by decide +kernel), gw_t1 1 (by decide +kernel) (by decide +kernel), ⟨by decide +kernel, by decide +kernel, by decide +kernel⟩, by decide +kernel⟩
theorem mO_P_lastWork : mOK mP_lastWork 1 := ⟨by decide +kernel, gw_t3 79 rfl (by decide +kernel), gw_t1 9 (by decide +kernel) (by decide +kernel), ⟨by decide +kernel, by decide +kernel, by decide +kernel⟩, by decide +kernel⟩
theorem mO_P_rulerOf : mOK mP_rulerOf 2 := ⟨by decide +kernel, gw_t3 83 rfl (by decide +kernel), gw_t1 9 (by decide +kernel) (by decide +kernel), ⟨by decide +kernel, by decide +kernel, by decide +kernel⟩, by decide +kernel⟩
theorem mO_D_one : mOK mD_one 2 := ⟨by decide +kernel, gw_t3 88 rfl (by decide +kernel), gw_t1 1 (by decide +kernel) (by decide +kernel), ⟨by decide +kernel, by decide +kernel, by decide +kernel⟩, by decide +kernel⟩
theorem mO_D_addedBy : mOK mD_addedBy 2 := ⟨by decide +kernel, gw_t3 93 rfl (by decide +kernel), gw_t1 1 (by decide +kernel) (by decide +kernel), ⟨by decide +kernel, by decide +kernel, by decide +kernel⟩, by decide +kernel⟩
theorem mO_E_aheadOf : mOK mE_aheadOf 2 := ⟨by decide +kernel, gw_t3 97 rfl (by decide +kernel), gw_t1 6 (by decide +kernel) (by decide +kernel), ⟨by decide +kernel, by decide +kernel, by decide +kernel⟩, by decide +kernel⟩
theorem mO_D_lostBy : mOK mD_lostBy 2 := ⟨by decide +kernel, gw_t3 102 rfl (by decide +kernel), gw_t1 1 (by decide +kernel) (by decide +kernel), ⟨by decide +kernel, by decide +kernel, by decide +kernel⟩, by decide +kernel⟩
theorem mO_D_without : mOK mD_without 2 := ⟨by decide +kernel, gw_t3 106 rfl (by decide +kernel), gw_t1 1 (by decide +kernel) (by decide +kernel), ⟨by decide +kernel, by decide +kernel, by decide +kernel⟩, by decide +kernel⟩
theorem mO_D_butFor : mOK mD_butFor 2 := ⟨by decide +kernel, gw_t3 110 rfl (by decide +kernel), gw_t1 1 (by decide +kernel) (by decide +kernel), ⟨by decide +kernel, by decide +kernel, by decide +kernel⟩, by decide +kernel⟩
theorem mO_E_ofCause : mOK mE_ofCause 2 := ⟨by decide +kernel, gw_t3 114 rfl (by decide +kernel), gw_t1 6 (by decide +kernel) (by decide +kernel), ⟨by decide +kernel, by decide +kernel, by decide +kernel⟩, by decide +kernel⟩
theorem mO_D_window : mOK mD_window 4 := ⟨by decide +kernel, gw_t3 118 rfl (by decide +kernel), gw_t1 1 (by decide +kernel) (by decide +kernel), ⟨by decide +kernel, by decide +kernel, by decide +kernel⟩, by decide +kernel⟩
theorem mO_E_upTo : mOK mE_upTo 2 := ⟨by decide +kernel, gw_t3 122 rfl (by decide +kernel), gw_t1 6 (by decide +kernel) (by decide +kernel), ⟨by decide +kernel, by decide +kernel, by decide +kernel⟩, by decide +kernel⟩
theorem mO_D_partOf : mOK mD_partOf 3 := ⟨by decide +kernel, gw_t3 126 rfl (by decide +kernel), gw_t1 1 (by decide +kernel) (by decide +kernel), ⟨by decide +kernel, by decide +kernel, by decide +kernel⟩, by decide +kernel⟩
theorem mO_E_daysTogether : mOK mE_daysTogether 1 := ⟨by decide +kernel, gw_t3 130 rfl (by decide +kernel), gw_t1 6 (by decide +kernel) (by decide +kernel), ⟨by decide +kernel, by decide +kernel, by decide +kernel⟩, by decide +kernel⟩
theorem mO_D_feed : mOK mD_feed 2 := ⟨by decide +kernel, gw_t3 134 rfl (by decide +kernel), gw_t1 1 (by decide +kernel) (by decide +kernel), ⟨by decide +kernel, by decide +kernel, by decide +kernel⟩, by decide +kernel⟩
theorem mO_C_take : mOK mC_take 2 := ⟨by decide +kernel, gw_t3 138 rfl (by decide +kernel), gw_t1 7 (by decide +kernel) (by decide +kernel), ⟨by decide +kernel, by decide +kernel, by decide +kernel⟩, by decide +kernel⟩
theorem mO_D_clause : mOK mD_clause 2 := ⟨by decide +kernel, gw_t3 142 rfl (by decide +kernel), gw_t1 1 (by decide +kernel) (by decide +kernel), ⟨by decide +kernel, by decide +kernel, by decide +kernel⟩, by decide +kernel⟩
theorem mO_D_isUse : mOK mD_isUse 1 := ⟨by decide +kernel, gw_t3 145 rfl (by decide +kernel), gw_t1 1 (by decide +kernel) (by decide +kernel), ⟨by decide +kernel, by decide +kernel, by decide +kernel⟩, by decide +kernel⟩
theorem mO_R_read : mOK mR_read 3 := ⟨by decide +kernel, gw_t3 149 rfl (by decide +kernel), gw_t1 10 (by decide +kernel) (by decide +kernel), ⟨by decide +kernel, by decide +kernel, by decide +kernel⟩, by decide +kernel⟩
theorem mO_R_either : mOK mR_either 0 := ⟨by decide +kernel, gw_t3 153 rfl (by decide +kernel), gw_t1 10 (by decide +kernel) (by decide +kernel), ⟨by decide +kernel, by decide +kernel, by decide +kernel⟩, by decide +kernel⟩
theorem mO_R_both : mOK mR_both 0 := ⟨by decide +kernel, gw_t3 157 rfl (by decide +kernel), gw_t1 10 (by decide +kernel) (by decide +kernel), ⟨by decide +kernel, by decide +kernel, by decide +kernel⟩, by decide +kernel⟩
theorem mO_R_compared : mOK mR_compared 0 := ⟨by decide +kernel, gw_t3 161 rfl (by decide +kernel), gw_t1 10 (by decide +kernel) (by decide +kernel), ⟨by decide +kernel, by decide +kernel, by decide +kernel⟩, by decide +kernel⟩
theorem mO_R_sum : mOK mR_sum 0 := ⟨by decide +kernel, gw_t3 165 rfl (by decide +kernel), gw_t1 10 (by decide +kernel) (by decide +kernel), ⟨by decide +kernel, by decide +kernel, by decide +kernel⟩, by decide +kernel⟩
theorem mO_R_product : mOK mR_product 0 := ⟨by decide +kernel, gw_t3 169 rfl (by decide +kernel), gw_t1 10 (by decide +kernel) (by decide +kernel), ⟨by decide +kernel, by decide +kernel, by decide +kernel⟩, by decide +kernel⟩
theorem mO_R_single : mOK mR_single 0 := ⟨by decide +kernel, gw_t3 173 rfl (by decide +kernel), gw_t1 10 (by decide +kernel) (by decide +kernel), ⟨by decide +kernel, by decide +kernel, by decide +kernel⟩, by decide +kernel⟩
theorem mO_R_next : mOK mR_next 0 := ⟨by decide +kernel, gw_t3 177 rfl (by decide +kernel), gw_t1 10 (by decide +kernel) (by decide +kernel), ⟨by decide +kernel, by decide +kernel, by decide +kernel⟩, by decide +kernel⟩
theorem mO_R_number : mOK mR_number 0 := ⟨by decide +kernel, gw_t3 181 rfl (by decide +kernel), gw_t1 10 (by decide +kernel) (by decide +kernel), ⟨by decide +kernel, by decide +kernel, by decide +kernel⟩, by decide +kernel⟩
theorem mO_R_opened : mOK mR_opened 1 := ⟨by decide +kernel, gw_t3 185 rfl (by decide +kernel), gw_t1 10 (by decide +kernel) (by decide +kernel), ⟨by decide +kernel, by decide +kernel, by decide +kernel⟩, by decide +kernel⟩
theorem mO_R_truth : mOK mR_truth 1 := ⟨by decide +kernel, gw_t3 188 rfl (by decide +kernel), gw_t1 10 (by decide +kernel) (by decide +kernel), ⟨by decide +kernel, by decide +kernel, by decide +kernel⟩, by decide +kernel⟩
theorem mO_R_skip : mOK mR_skip 1 := ⟨by decide +kernel, gw_t3 192 rfl (by decide +kernel), gw_t1 10 (by decide +kernel) (by decide +kernel), ⟨by decide +kernel, by decide +kernel, by decide +kernel⟩, by decide +kernel⟩
theorem mO_R_nameOf : mOK mR_nameOf 1 := ⟨by decide +kernel, gw_t3 195 rfl (by decide +kernel), gw_t1 10 (by decide +kernel) (by decide +kernel), ⟨by decide +kernel, by decide +kernel, by decide +kernel⟩, by decide +kernel⟩
theorem mO_R_fault : mOK mR_fault 0 := ⟨by decide +kernel, gw_t3 199 rfl (by decide +kernel), gw_t1 10 (by decide +kernel) (by decide +kernel), ⟨by decide +kernel, by decide +kernel, by decide +kernel⟩, by decide +kernel⟩
theorem mO_C_add : mOK mC_add 2 := ⟨by decide +kernel, gw_t3 203 rfl (by decide +kernel), gw_t1 7 (by decide +kernel) (by decide +kernel), ⟨by decide +kernel, by decide +kernel, by decide +kernel⟩, by decide +kernel⟩
theorem mO_D_says : mOK mD_says 2 := ⟨by decide +kernel, gw_t3 208 rfl (by decide +kernel), gw_t1 1 (by decide +kernel) (by decide +kernel), ⟨by decide +kernel, by decide +kernel, by decide +kernel⟩, by decide +kernel⟩
theorem mO_D_riskOf : mOK mD_riskOf 1 := ⟨by decide +kernel, gw_t3 212 rfl (by decide +kernel), gw_t1 1 (by decide +kernel) (by decide +kernel), ⟨by decide +kernel, by decide +kernel, by decide +kernel⟩, by decide +kernel⟩
theorem mO_C_inForce : mOK mC_inForce 2 := ⟨by decide +kernel, gw_t3 216 rfl (by decide +kernel), gw_t1 7 (by decide +kernel) (by decide +kernel), ⟨by decide +kernel, by decide +kernel, by decide +kernel⟩, by decide +kernel⟩
theorem mO_D_valueOf : mOK mD_valueOf 2 := ⟨by decide +kernel, gw_t3 220 rfl (by decide +kernel), gw_t1 1 (by decide +kernel) (by decide +kernel), ⟨by decide +kernel, by decide +kernel, by decide +kernel⟩, by decide +kernel⟩
theorem mO_E_noticeAfter : mOK mE_noticeAfter 1 := ⟨by decide +kernel, gw_t3 224 rfl (by decide +kernel), gw_t1 6 (by decide +kernel) (by decide +kernel), ⟨by decide +kernel, by decide +kernel, by decide +kernel⟩, by decide +kernel⟩
theorem mO_D_knownToday : mOK mD_knownToday 0 := ⟨by decide +kernel, gw_t3 228 rfl (by decide +kernel), gw_t1 1 (by decide +kernel) (by decide +kernel), ⟨by decide +kernel, by decide +kernel, by decide +kernel⟩, by decide +kernel⟩
theorem mO_E_meetsOther : mOK mE_meetsOther 2 := ⟨by decide +kernel, gw_t3 232 rfl (by decide +kernel), gw_t1 6 (by decide +kernel) (by decide +kernel), ⟨by decide +kernel, by decide +kernel, by decide +kernel⟩, by decide +kernel⟩
theorem mO_C_mentions : mOK mC_mentions 2 := ⟨by decide +kernel, gw_t3 236 rfl (by decide +kernel), gw_t1 7 (by decide +kernel) (by decide +kernel), ⟨by decide +kernel, by decide +kernel, by decide +kernel⟩, by decide +kernel⟩
theorem mO_D_priceOf : mOK mD_priceOf 1 := ⟨by decide +kernel, gw_t4 4 rfl (by decide +kernel), gw_t1 1 (by decide +kernel) (by decide +kernel), ⟨by decide +kernel, by decide +kernel, by decide +kernel⟩, by decide +kernel⟩
theorem mO_D_force : mOK mD_force 2 := ⟨by decide +kernel, gw_t4 8 rfl (by decide +kernel), gw_t1 1 (by decide +kernel) (by decide +kernel), ⟨by decide +kernel, by decide +kernel, by decide +kernel⟩, by decide +kernel⟩
theorem mO_D_claim : mOK mD_claim 1 := ⟨by decide +kernel, gw_t4 12 rfl (by decide +kernel), gw_t1 1 (by decide +kernel) (by decide +kernel), ⟨by decide +kernel, by decide +kernel, by decide +kernel⟩, by decide +kernel⟩
theorem mO_D_bearing : mOK mD_bearing 1 := ⟨by decide +kernel, gw_t4 16 rfl (by decide +kernel), gw_t1 1 (by decide +kernel) (by decide +kernel), ⟨by decide +kernel, by decide +kernel, by decide +kernel⟩, by decide +kernel⟩
theorem mO_D_paidFor : mOK mD_paidFor 1 := ⟨by decide +kernel, gw_t4 20 rfl (by decide +kernel), gw_t1 1 (by decide +kernel) (by decide +kernel), ⟨by decide +kernel, by decide +kernel, by decide +kernel⟩, by decide +kernel⟩
theorem mO_D_twoAtOnce : mOK mD_twoAtOnce 0 := ⟨by decide +kernel, gw_t4 24 rfl (by decide +kernel), gw_t1 1 (by decide +kernel) (by decide +kernel), ⟨by decide +kernel, by decide +kernel, by decide +kernel⟩, by decide +kernel⟩
theorem mO_D_hurry : mOK mD_hurry 3 := ⟨by decide +kernel, gw_t4 28 rfl (by decide +kernel), gw_t1 1 (by decide +kernel) (by decide +kernel), ⟨by decide +kernel, by decide +kernel, by decide +kernel⟩, by decide +kernel⟩
theorem mO_H_add : mOK mH_add 3 := ⟨by decide +kernel, gw_t4 32 rfl (by decide +kernel), gw_t1 8 (by decide +kernel) (by decide +kernel), ⟨by decide +kernel, by decide +kernel, by decide +kernel⟩, by decide +kernel⟩
theorem mO_D_calm : mOK mD_calm 0 := ⟨by decide +kernel, gw_t4 36 rfl (by decide +kernel), gw_t1 1 (by decide +kernel) (by decide +kernel), ⟨by decide +kernel, by decide +kernel, by decide +kernel⟩, by decide +kernel⟩
theorem mO_D_least : mOK mD_least 2 := ⟨by decide +kernel, gw_t4 40 rfl (by decide +kernel), gw_t1 1 (by decide +kernel) (by decide +kernel), ⟨by decide +kernel, by decide +kernel, by decide +kernel⟩, by decide +kernel⟩
theorem mO_D_cheapest : mOK mD_cheapest 1 := ⟨by decide +kernel, gw_t4 44 rfl (by decide +kernel), gw_t1 1 (by decide +kernel) (by decide +kernel), ⟨by decide +kernel, by decide +kernel, by decide +kernel⟩, by decide +kernel⟩
theorem mO_H_sumOf : mOK mH_sumOf 1 := ⟨by decide +kernel, gw_t4 48 rfl (by decide +kernel), gw_t1 8 (by decide +kernel) (by decide +kernel), ⟨by decide +kernel, by decide +kernel, by decide +kernel⟩, by decide +kernel⟩
theorem mO_D_endHurried : mOK mD_endHurried 2 := ⟨by decide +kernel, gw_t4 52 rfl (by decide +kernel), gw_t1 1 (by decide +kernel) (by decide +kernel), ⟨by decide +kernel, by decide +kernel, by decide +kernel⟩, by decide +kernel⟩
theorem mO_H_next : mOK mH_next 1 := ⟨by decide +kernel, gw_t4 57 rfl (by decide +kernel), gw_t1 8 (by decide +kernel) (by decide +kernel), ⟨by decide +kernel, by decide +kernel, by decide +kernel⟩, by decide +kernel⟩
theorem mO_D_proves : mOK mD_proves 3 := ⟨by decide +kernel, gw_t4 61 rfl (by decide +kernel), gw_t1 1 (by decide +kernel) (by decide +kernel), ⟨by decide +kernel, by decide +kernel, by decide +kernel⟩, by decide +kernel⟩
theorem mO_D_isSheet : mOK mD_isSheet 1 := ⟨by decide +kernel, gw_t4 64 rfl (by decide +kernel), gw_t1 1 (by decide +kernel) (by decide +kernel), ⟨by decide +kernel, by decide +kernel, by decide +kernel⟩, by decide +kernel⟩
theorem mO_H_firstWrong : mOK mH_firstWrong 1 := ⟨by decide +kernel, gw_t4 68 rfl (by decide +kernel), gw_t1 8 (by decide +kernel) (by decide +kernel), ⟨by decide +kernel, by decide +kernel, by decide +kernel⟩, by decide +kernel⟩
theorem mO_D_voice : mOK mD_voice 3 := ⟨by decide +kernel, gw_t4 73 rfl (by decide +kernel), gw_t1 1 (by decide +kernel) (by decide +kernel), ⟨by decide +kernel, by decide +kernel, by decide +kernel⟩, by decide +kernel⟩
theorem mO_V_begin : mOK mV_begin 5 := ⟨by decide +kernel, gw_t4 77 rfl (by decide +kernel), gw_t1 11 (by decide +kernel) (by decide +kernel), ⟨by decide +kernel, by decide +kernel, by decide +kernel⟩, by decide +kernel⟩
theorem mO_V_call : mOK mV_call 4 := ⟨by decide +kernel, gw_t4 81 rfl (by decide +kernel), gw_t1 11 (by decide +kernel) (by decide +kernel), ⟨by decide +kernel, by decide +kernel, by decide +kernel⟩, by decide +kernel⟩
theorem mO_V_speak : mOK mV_speak 3 := ⟨by decide +kernel, gw_t4 88 rfl (by decide +kernel), gw_t1 11 (by decide +kernel) (by decide +kernel), ⟨by decide +kernel, by decide +kernel, by decide +kernel⟩, by decide +kernel⟩
theorem mO_D_trace : mOK mD_trace 1 := ⟨by decide +kernel, gw_t4 93 rfl (by decide +kernel), gw_t1 1 (by decide +kernel) (by decide +kernel), ⟨by decide +kernel, by decide +kernel, by decide +kernel⟩, by decide +kernel⟩
theorem mO_D_sheet : mOK mD_sheet 3 := ⟨by decide +kernel, gw_t4 97 rfl (by decide +kernel), gw_t1 1 (by decide +kernel) (by decide +kernel), ⟨by decide +kernel, by decide +kernel, by decide +kernel⟩, by decide +kernel⟩
theorem mO_S_renew : mOK mS_renew 2 := ⟨by decide +kernel, gw_t4 101 rfl (by decide +kernel), gw_t1 12 (by decide +kernel) (by decide +kernel), ⟨by decide +kernel, by decide +kernel, by decide +kernel⟩, by decide +kernel⟩
theorem mO_D_put : mOK mD_put 3 := ⟨by decide +kernel, gw_t4 105 rfl (by decide +kernel), gw_t1 1 (by decide +kernel) (by decide +kernel), ⟨by decide +kernel, by decide +kernel, by decide +kernel⟩, by decide +kernel⟩
theorem mO_S_cut : mOK mS_cut 1 := ⟨by decide +kernel, gw_t4 109 rfl (by decide +kernel), gw_t1 12 (by decide +kernel) (by decide +kernel), ⟨by decide +kernel, by decide +kernel, by decide +kernel⟩, by decide +kernel⟩
theorem mO_D_move : mOK mD_move 5 := ⟨by decide +kernel, gw_t4 113 rfl (by decide +kernel), gw_t1 1 (by decide +kernel) (by decide +kernel), ⟨by decide +kernel, by decide +kernel, by decide +kernel⟩, by decide +kernel⟩
theorem mO_D_image : mOK mD_image 0 := ⟨by decide +kernel, gw_t4 117 rfl (by decide +kernel), gw_t1 1 (by decide +kernel) (by decide +kernel), ⟨by decide +kernel, by decide +kernel, by decide +kernel⟩, by decide +kernel⟩
theorem mO_T_copy : mOK mT_copy 1 := ⟨by decide +kernel, gw_t4 121 rfl (by decide +kernel), gw_t1 2 (by decide +kernel) (by decide +kernel), ⟨by decide +kernel, by decide +kernel, by decide +kernel⟩, by decide +kernel⟩
theorem mO_Y_copy : mOK mY_copy 1 := ⟨by decide +kernel, gw_t4 125 rfl (by decide +kernel), gw_t1 3 (by decide +kernel) (by decide +kernel), ⟨by decide +kernel, by decide +kernel, by decide +kernel⟩, by decide +kernel⟩
theorem mO_W_copy : mOK mW_copy 1 := ⟨by decide +kernel, gw_t4 130 rfl (by decide +kernel), gw_t1 5 (by decide +kernel) (by decide +kernel), ⟨by decide +kernel, by decide +kernel, by decide +kernel⟩, by decide +kernel⟩
theorem mO_E_copy : mOK mE_copy 1 := ⟨by decide +kernel, gw_t4 135 rfl (by decide +kernel), gw_t1 6 (by decide +kernel) (by decide +kernel), ⟨by decide +kernel, by decide +kernel, by decide +kernel⟩, by decide +kernel⟩
theorem mO_C_copy : mOK mC_copy 1 := ⟨by decide +kernel, gw_t4 140 rfl (by decide +kernel), gw_t1 7 (by decide +kernel) (by decide +kernel), ⟨by decide +kernel, by decide +kernel, by decide +kernel⟩, by decide +kernel⟩
theorem mO_H_copy : mOK mH_copy 1 := ⟨by decide +kernel, gw_t4 144 rfl (by decide +kernel), gw_t1 8 (by decide +kernel) (by decide +kernel), ⟨by decide +kernel, by decide +kernel, by decide +kernel⟩, by decide +kernel⟩
theorem mO_D_restore : mOK mD_restore 0 := ⟨by decide +kernel, gw_t4 149 rfl (by decide +kernel), gw_t1 1 (by decide +kernel) (by decide +kernel), ⟨by decide +kernel, by decide +kernel, by decide +kernel⟩, by decide +kernel⟩
theorem mO_D_told : mOK mD_told 1 := ⟨by decide +kernel, gw_t4 153 rfl (by decide +kernel), gw_t1 1 (by decide +kernel) (by decide +kernel), ⟨by decide +kernel, by decide +kernel, by decide +kernel⟩, by decide +kernel⟩
theorem mO_D_found : mOK mD_found 1 := ⟨by decide +kernel, gw_t4 158 rfl (by decide +kernel), gw_t1 1 (by decide +kernel) (by decide +kernel), ⟨by decide +kernel, by decide +kernel, by decide +kernel⟩, by decide +kernel⟩
theorem mO_M_init : mOK mM_init 0 := ⟨by decide +kernel, gw_t4 163 rfl (by decide +kernel), gw_t1 13 (by decide +kernel) (by decide +kernel), ⟨by decide +kernel, by decide +kernel, by decide +kernel⟩, by decide +kernel⟩
theorem mO_M_changed : mOK mM_changed 0 := ⟨by decide +kernel, gw_t4 168 rfl (by decide +kernel), gw_t1 13 (by decide +kernel) (by decide +kernel), ⟨by decide +kernel, by decide +kernel, by decide +kernel⟩, by decide +kernel⟩
theorem mO_M_work : mOK mM_work 2 := ⟨by decide +kernel, gw_t5 11 rfl (by decide +kernel), gw_t1 13 (by decide +kernel) (by decide +kernel), ⟨by decide +kernel, by decide +kernel, by decide +kernel⟩, by decide +kernel⟩
theorem mO_M_within : mOK mM_within 3 := ⟨by decide +kernel, gw_t5 15 rfl (by decide +kernel), gw_t1 13 (by decide +kernel) (by decide +kernel), ⟨by decide +kernel, by decide +kernel, by decide +kernel⟩, by decide +kernel⟩
theorem mO_M_finding : mOK mM_finding 1 := ⟨by decide +kernel, gw_t5 21 rfl (by decide +kernel), gw_t1 13 (by decide +kernel) (by decide +kernel), ⟨by decide +kernel, by decide +kernel, by decide +kernel⟩, by decide +kernel⟩
theorem mO_M_as : mOK mM_as 2 := ⟨by decide +kernel, gw_t5 27 rfl (by decide +kernel), gw_t1 13 (by decide +kernel) (by decide +kernel), ⟨by decide +kernel, by decide +kernel, by decide +kernel⟩, by decide +kernel⟩
theorem mO_M_is : mOK mM_is 2 := ⟨by decide +kernel, gw_t5 31 rfl (by decide +kernel), gw_t1 13 (by decide +kernel) (by decide +kernel), ⟨by decide +kernel, by decide +kernel, by decide +kernel⟩, by decide +kernel⟩
theorem mO_M_kindOf : mOK mM_kindOf 1 := ⟨by decide +kernel, gw_t5 35 rfl (by decide +kernel), gw_t1 13 (by decide +kernel) (by decide +kernel), ⟨by decide +kernel, by decide +kernel, by decide +kernel⟩, by decide +kernel⟩
theorem mO_M_above : mOK mM_above 1 := ⟨by decide +kernel, gw_t5 38 rfl (by decide +kernel), gw_t1 13 (by decide +kernel) (by decide +kernel), ⟨by decide +kernel, by decide +kernel, by decide +kernel⟩, by decide +kernel⟩
theorem mO_M_longOf : mOK mM_longOf 1 := ⟨by decide +kernel, gw_t5 43 rfl (by decide +kernel), gw_t1 13 (by decide +kernel) (by decide +kernel), ⟨by decide +kernel, by decide +kernel, by decide +kernel⟩, by decide +kernel⟩
theorem mO_M_edit : mOK mM_edit 2 := ⟨by decide +kernel, gw_t5 47 rfl (by decide +kernel), gw_t1 13 (by decide +kernel) (by decide +kernel), ⟨by decide +kernel, by decide +kernel, by decide +kernel⟩, by decide +kernel⟩
theorem mO_M_hurried : mOK mM_hurried 1 := ⟨by decide +kernel, gw_t5 51 rfl (by decide +kernel), gw_t1 13 (by decide +kernel) (by decide +kernel), ⟨by decide +kernel, by decide +kernel, by decide +kernel⟩, by decide +kernel⟩
theorem mO_M_link : mOK mM_link 3 := ⟨by decide +kernel, gw_t5 56 rfl (by decide +kernel), gw_t1 13 (by decide +kernel) (by decide +kernel), ⟨by decide +kernel, by decide +kernel, by decide +kernel⟩, by decide +kernel⟩
theorem mO_M_linkAt : mOK mM_linkAt 2 := ⟨by decide +kernel, gw_t5 61 rfl (by decide +kernel), gw_t1 13 (by decide +kernel) (by decide +kernel), ⟨by decide +kernel, by decide +kernel, by decide +kernel⟩, by decide +kernel⟩
theorem mO_M_leads : mOK mM_leads 2 := ⟨by decide +kernel, gw_t5 65 rfl (by decide +kernel), gw_t1 13 (by decide +kernel) (by decide +kernel), ⟨by decide +kernel, by decide +kernel, by decide +kernel⟩, by decide +kernel⟩
theorem mO_M_has : mOK mM_has 2 := ⟨by decide +kernel, gw_t5 68 rfl (by decide +kernel), gw_t1 13 (by decide +kernel) (by decide +kernel), ⟨by decide +kernel, by decide +kernel, by decide +kernel⟩, by decide +kernel⟩
theorem mO_M_unlink : mOK mM_unlink 2 := ⟨by decide +kernel, gw_t5 72 rfl (by decide +kernel), gw_t1 13 (by decide +kernel) (by decide +kernel), ⟨by decide +kernel, by decide +kernel, by decide +kernel⟩, by decide +kernel⟩
theorem mO_M_week : mOK mM_week 1 := ⟨by decide +kernel, gw_t5 77 rfl (by decide +kernel), gw_t1 13 (by decide +kernel) (by decide +kernel), ⟨by decide +kernel, by decide +kernel, by decide +kernel⟩, by decide +kernel⟩
theorem mO_M_rain : mOK mM_rain 3 := ⟨by decide +kernel, gw_t5 82 rfl (by decide +kernel), gw_t1 13 (by decide +kernel) (by decide +kernel), ⟨by decide +kernel, by decide +kernel, by decide +kernel⟩, by decide +kernel⟩
theorem mO_M_today : mOK mM_today 1 := ⟨by decide +kernel, gw_t5 88 rfl (by decide +kernel), gw_t1 13 (by decide +kernel) (by decide +kernel), ⟨by decide +kernel, by decide +kernel, by decide +kernel⟩, by decide +kernel⟩
theorem mO_M_event3 : mOK mM_event3 3 := ⟨by decide +kernel, gw_t5 92 rfl (by decide +kernel), gw_t1 13 (by decide +kernel) (by decide +kernel), ⟨by decide +kernel, by decide +kernel, by decide +kernel⟩, by decide +kernel⟩
theorem mO_M_notice : mOK mM_notice 2 := ⟨by decide +kernel, gw_t5 97 rfl (by decide +kernel), gw_t1 13 (by decide +kernel) (by decide +kernel), ⟨by decide +kernel, by decide +kernel, by decide +kernel⟩, by decide +kernel⟩
theorem mO_M_event2 : mOK mM_event2 2 := ⟨by decide +kernel, gw_t5 101 rfl (by decide +kernel), gw_t1 13 (by decide +kernel) (by decide +kernel), ⟨by decide +kernel, by decide +kernel, by decide +kernel⟩, by decide +kernel⟩
theorem mO_M_back : mOK mM_back 1 := ⟨by decide +kernel, gw_t5 105 rfl (by decide +kernel), gw_t1 13 (by decide +kernel) (by decide +kernel), ⟨by decide +kernel, by decide +kernel, by decide +kernel⟩, by decide +kernel⟩
theorem mO_M_of : mOK mM_of 2 := ⟨by decide +kernel, gw_t5 109 rfl (by decide +kernel), gw_t1 13 (by decide +kernel) (by decide +kernel), ⟨by decide +kernel, by decide +kernel, by decide +kernel⟩, by decide +kernel⟩
theorem mO_M_known : mOK mM_known 1 := ⟨by decide +kernel, gw_t5 114 rfl (by decide +kernel), gw_t1 13 (by decide +kernel) (by decide +kernel), ⟨by decide +kernel, by decide +kernel, by decide +kernel⟩, by decide +kernel⟩
theorem mO_M_isDay : mOK mM_isDay 1 := ⟨by decide +kernel, gw_t5 117 rfl (by decide +kernel), gw_t1 13 (by decide +kernel) (by decide +kernel), ⟨by decide +kernel, by decide +kernel, by decide +kernel⟩, by decide +kernel⟩
theorem mO_M_knownOn : mOK mM_knownOn 1 := ⟨by decide +kernel, gw_t5 121 rfl (by decide +kernel), gw_t1 13 (by decide +kernel) (by decide +kernel), ⟨by decide +kernel, by decide +kernel, by decide +kernel⟩, by decide +kernel⟩
theorem mO_M_plan : mOK mM_plan 3 := ⟨by decide +kernel, gw_t5 125 rfl (by decide +kernel), gw_t1 13 (by decide +kernel) (by decide +kernel), ⟨by decide +kernel, by decide +kernel, by decide +kernel⟩, by decide +kernel⟩
theorem mO_M_areEvents : mOK mM_areEvents 1 := ⟨by decide +kernel, gw_t5 129 rfl (by decide +kernel), gw_t1 13 (by decide +kernel) (by decide +kernel), ⟨by decide +kernel, by decide +kernel, by decide +kernel⟩, by decide +kernel⟩
theorem mO_M_slackOf : mOK mM_slackOf 2 := ⟨by decide +kernel, gw_t5 134 rfl (by decide +kernel), gw_t1 13 (by decide +kernel) (by decide +kernel), ⟨by decide +kernel, by decide +kernel, by decide +kernel⟩, by decide +kernel⟩
theorem mO_M_endBy : mOK mM_endBy 1 := ⟨by decide +kernel, gw_t5 138 rfl (by decide +kernel), gw_t1 13 (by decide +kernel) (by decide +kernel), ⟨by decide +kernel, by decide +kernel, by decide +kernel⟩, by decide +kernel⟩
theorem mO_M_needBy : mOK mM_needBy 1 := ⟨by decide +kernel, gw_t5 142 rfl (by decide +kernel), gw_t1 13 (by decide +kernel) (by decide +kernel), ⟨by decide +kernel, by decide +kernel, by decide +kernel⟩, by decide +kernel⟩
theorem mO_M_goThrough : mOK mM_goThrough 0 := ⟨by decide +kernel, gw_t5 146 rfl (by decide +kernel), gw_t1 13 (by decide +kernel) (by decide +kernel), ⟨by decide +kernel, by decide +kernel, by decide +kernel⟩, by decide +kernel⟩
theorem mO_M_sort : mOK mM_sort 0 := ⟨by decide +kernel, gw_t5 150 rfl (by decide +kernel), gw_t1 13 (by decide +kernel) (by decide +kernel), ⟨by decide +kernel, by decide +kernel, by decide +kernel⟩, by decide +kernel⟩
theorem mO_M_endOf : mOK mM_endOf 3 := ⟨by decide +kernel, gw_t5 154 rfl (by decide +kernel), gw_t1 13 (by decide +kernel) (by decide +kernel), ⟨by decide +kernel, by decide +kernel, by decide +kernel⟩, by decide +kernel⟩
theorem mO_M_goesOn : mOK mM_goesOn 2 := ⟨by decide +kernel, gw_t5 159 rfl (by decide +kernel), gw_t1 13 (by decide +kernel) (by decide +kernel), ⟨by decide +kernel, by decide +kernel, by decide +kernel⟩, by decide +kernel⟩
theorem mO_M_end : mOK mM_end 1 := ⟨by decide +kernel, gw_t5 163 rfl (by decide +kernel), gw_t1 13 (by decide +kernel) (by decide +kernel), ⟨by decide +kernel, by decide +kernel, by decide +kernel⟩, by decide +kernel⟩
theorem mO_M_chain : mOK mM_chain 2 := ⟨by decide +kernel, gw_t5 167 rfl (by decide +kernel), gw_t1 13 (by decide +kernel) (by decide +kernel), ⟨by decide +kernel, by decide +kernel, by decide +kernel⟩, by decide +kernel⟩
theorem mO_M_one : mOK mM_one 2 := ⟨by decide +kernel, gw_t5 171 rfl (by decide +kernel), gw_t1 13 (by decide +kernel) (by decide +kernel), ⟨by decide +kernel, by decide +kernel, by decide +kernel⟩, by decide +kernel⟩
theorem mO_M_step : mOK mM_step 2 := ⟨by decide +kernel, gw_t5 175 rfl (by decide +kernel), gw_t1 13 (by decide +kernel) (by decide +kernel), ⟨by decide +kernel, by decide +kernel, by decide +kernel⟩, by decide +kernel⟩
theorem mO_M_isAhead : mOK mM_isAhead 2 := ⟨by decide +kernel, gw_t5 179 rfl (by decide +kernel), gw_t1 13 (by decide +kernel) (by decide +kernel), ⟨by decide +kernel, by decide +kernel, by decide +kernel⟩, by decide +kernel⟩
theorem mO_M_without : mOK mM_without 2 := ⟨by decide +kernel, gw_t5 183 rfl (by decide +kernel), gw_t1 13 (by decide +kernel) (by decide +kernel), ⟨by decide +kernel, by decide +kernel, by decide +kernel⟩, by decide +kernel⟩
theorem mO_M_butFor : mOK mM_butFor 2 := ⟨by decide +kernel, gw_t5 187 rfl (by decide +kernel), gw_t1 13 (by decide +kernel) (by decide +kernel), ⟨by decide +kernel, by decide +kernel, by decide +kernel⟩, by decide +kernel⟩
theorem mO_M_window : mOK mM_window 4 := ⟨by decide +kernel, gw_t5 192 rfl (by decide +kernel), gw_t1 13 (by decide +kernel) (by decide +kernel), ⟨by decide +kernel, by decide +kernel, by decide +kernel⟩, by decide +kernel⟩
theorem mO_M_partOf : mOK mM_partOf 3 := ⟨by decide +kernel, gw_t5 199 rfl (by decide +kernel), gw_t1 13 (by decide +kernel) (by decide +kernel), ⟨by decide +kernel, by decide +kernel, by decide +kernel⟩, by decide +kernel⟩
theorem mO_M_feed : mOK mM_feed 2 := ⟨by decide +kernel, gw_t5 203 rfl (by decide +kernel), gw_t1 13 (by decide +kernel) (by decide +kernel), ⟨by decide +kernel, by decide +kernel, by decide +kernel⟩, by decide +kernel⟩
theorem mO_M_clause : mOK mM_clause 2 := ⟨by decide +kernel, gw_t5 209 rfl (by decide +kernel), gw_t1 13 (by decide +kernel) (by decide +kernel), ⟨by decide +kernel, by decide +kernel, by decide +kernel⟩, by decide +kernel⟩
theorem mO_M_either : mOK mM_either 0 := ⟨by decide +kernel, gw_t5 213 rfl (by decide +kernel), gw_t1 13 (by decide +kernel) (by decide +kernel), ⟨by decide +kernel, by decide +kernel, by decide +kernel⟩, by decide +kernel⟩
theorem mO_M_both : mOK mM_both 0 := ⟨by decide +kernel, gw_t5 217 rfl (by decide +kernel), gw_t1 13 (by decide +kernel) (by decide +kernel), ⟨by decide +kernel, by decide +kernel, by decide +kernel⟩, by decide +kernel⟩
theorem mO_M_test : mOK mM_test 0 := ⟨by decide +kernel, gw_t5 221 rfl (by decide +kernel), gw_t1 13 (by decide +kernel) (by decide +kernel), ⟨by decide +kernel, by decide +kernel, by decide +kernel⟩, by decide +kernel⟩
theorem mO_M_sum : mOK mM_sum 0 := ⟨by decide +kernel, gw_t5 225 rfl (by decide +kernel), gw_t1 13 (by decide +kernel) (by decide +kernel), ⟨by decide +kernel, by decide +kernel, by decide +kernel⟩, by decide +kernel⟩
theorem mO_M_product : mOK mM_product 0 := ⟨by decide +kernel, gw_t5 229 rfl (by decide +kernel), gw_t1 13 (by decide +kernel) (by decide +kernel), ⟨by decide +kernel, by decide +kernel, by decide +kernel⟩, by decide +kernel⟩
theorem mO_M_part : mOK mM_part 0 := ⟨by decide +kernel, gw_t5 233 rfl (by decide +kernel), gw_t1 13 (by decide +kernel) (by decide +kernel), ⟨by decide +kernel, by decide +kernel, by decide +kernel⟩, by decide +kernel⟩
theorem mO_M_here : mOK mM_here 0 := ⟨by decide +kernel, gw_t5 237 rfl (by decide +kernel), gw_t1 13 (by decide +kernel) (by decide +kernel), ⟨by decide +kernel, by decide +kernel, by decide +kernel⟩, by decide +kernel⟩
theorem mO_M_opens : mOK mM_opens 0 := ⟨by decide +kernel, gw_t6 1 rfl (by decide +kernel), gw_t1 13 (by decide +kernel) (by decide +kernel), ⟨by decide +kernel, by decide +kernel, by decide +kernel⟩, by decide +kernel⟩
theorem mO_M_put1 : mOK mM_put1 1 := ⟨by decide +kernel, gw_t6 5 rfl (by decide +kernel), gw_t1 13 (by decide +kernel) (by decide +kernel), ⟨by decide +kernel, by decide +kernel, by decide +kernel⟩, by decide +kernel⟩
theorem mO_M_nameOf : mOK mM_nameOf 1 := ⟨by decide +kernel, gw_t6 10 rfl (by decide +kernel), gw_t1 13 (by decide +kernel) (by decide +kernel), ⟨by decide +kernel, by decide +kernel, by decide +kernel⟩, by decide +kernel⟩
theorem mO_M_force : mOK mM_force 2 := ⟨by decide +kernel, gw_t6 14 rfl (by decide +kernel), gw_t1 13 (by decide +kernel) (by decide +kernel), ⟨by decide +kernel, by decide +kernel, by decide +kernel⟩, by decide +kernel⟩
theorem mO_M_forced : mOK mM_forced 2 := ⟨by decide +kernel, gw_t6 18 rfl (by decide +kernel), gw_t1 13 (by decide +kernel) (by decide +kernel), ⟨by decide +kernel, by decide +kernel, by decide +kernel⟩, by decide +kernel⟩
theorem mO_M_says : mOK mM_says 2 := ⟨by decide +kernel, gw_t6 22 rfl (by decide +kernel), gw_t1 13 (by decide +kernel) (by decide +kernel), ⟨by decide +kernel, by decide +kernel, by decide +kernel⟩, by decide +kernel⟩
theorem mO_M_saidOf : mOK mM_saidOf 2 := ⟨by decide +kernel, gw_t6 26 rfl (by decide +kernel), gw_t1 13 (by decide +kernel) (by decide +kernel), ⟨by decide +kernel, by decide +kernel, by decide +kernel⟩, by decide +kernel⟩
theorem mO_M_worked : mOK mM_worked 2 := ⟨by decide +kernel, gw_t6 30 rfl (by decide +kernel), gw_t1 13 (by decide +kernel) (by decide +kernel), ⟨by decide +kernel, by decide +kernel, by decide +kernel⟩, by decide +kernel⟩
theorem mO_M_named : mOK mM_named 2 := ⟨by decide +kernel, gw_t6 34 rfl (by decide +kernel), gw_t1 13 (by decide +kernel) (by decide +kernel), ⟨by decide +kernel, by decide +kernel, by decide +kernel⟩, by decide +kernel⟩
theorem mO_M_isTwo : mOK mM_isTwo 1 := ⟨by decide +kernel, gw_t6 38 rfl (by decide +kernel), gw_t1 13 (by decide +kernel) (by decide +kernel), ⟨by decide +kernel, by decide +kernel, by decide +kernel⟩, by decide +kernel⟩
theorem mO_M_floatOf : mOK mM_floatOf 1 := ⟨by decide +kernel, gw_t6 42 rfl (by decide +kernel), gw_t1 13 (by decide +kernel) (by decide +kernel), ⟨by decide +kernel, by decide +kernel, by decide +kernel⟩, by decide +kernel⟩
theorem mO_M_done : mOK mM_done 3 := ⟨by decide +kernel, gw_t6 45 rfl (by decide +kernel), gw_t1 13 (by decide +kernel) (by decide +kernel), ⟨by decide +kernel, by decide +kernel, by decide +kernel⟩, by decide +kernel⟩
theorem mO_M_claim : mOK mM_claim 1 := ⟨by decide +kernel, gw_t6 50 rfl (by decide +kernel), gw_t1 13 (by decide +kernel) (by decide +kernel), ⟨by decide +kernel, by decide +kernel, by decide +kernel⟩, by decide +kernel⟩
theorem mO_M_withRisk : mOK mM_withRisk 1 := ⟨by decide +kernel, gw_t6 54 rfl (by decide +kernel), gw_t1 13 (by decide +kernel) (by decide +kernel), ⟨by decide +kernel, by decide +kernel, by decide +kernel⟩, by decide +kernel⟩
theorem mO_M_paid : mOK mM_paid 0 := ⟨by decide +kernel, gw_t6 58 rfl (by decide +kernel), gw_t1 13 (by decide +kernel) (by decide +kernel), ⟨by decide +kernel, by decide +kernel, by decide +kernel⟩, by decide +kernel⟩
theorem mO_M_hurry : mOK mM_hurry 3 := ⟨by decide +kernel, gw_t6 62 rfl (by decide +kernel), gw_t1 13 (by decide +kernel) (by decide +kernel), ⟨by decide +kernel, by decide +kernel, by decide +kernel⟩, by decide +kernel⟩
theorem mO_M_calm : mOK mM_calm 0 := ⟨by decide +kernel, gw_t6 67 rfl (by decide +kernel), gw_t1 13 (by decide +kernel) (by decide +kernel), ⟨by decide +kernel, by decide +kernel, by decide +kernel⟩, by decide +kernel⟩
theorem mO_M_least : mOK mM_least 2 := ⟨by decide +kernel, gw_t6 71 rfl (by decide +kernel), gw_t1 13 (by decide +kernel) (by decide +kernel), ⟨by decide +kernel, by decide +kernel, by decide +kernel⟩, by decide +kernel⟩
theorem mO_M_leastFor : mOK mM_leastFor 1 := ⟨by decide +kernel, gw_t6 76 rfl (by decide +kernel), gw_t1 13 (by decide +kernel) (by decide +kernel), ⟨by decide +kernel, by decide +kernel, by decide +kernel⟩, by decide +kernel⟩
theorem mO_M_sumHurried : mOK mM_sumHurried 0 := ⟨by decide +kernel, gw_t6 80 rfl (by decide +kernel), gw_t1 13 (by decide +kernel) (by decide +kernel), ⟨by decide +kernel, by decide +kernel, by decide +kernel⟩, by decide +kernel⟩
theorem mO_M_endHurried : mOK mM_endHurried 0 := ⟨by decide +kernel, gw_t6 84 rfl (by decide +kernel), gw_t1 13 (by decide +kernel) (by decide +kernel), ⟨by decide +kernel, by decide +kernel, by decide +kernel⟩, by decide +kernel⟩
theorem mO_M_proves : mOK mM_proves 3 := ⟨by decide +kernel, gw_t6 88 rfl (by decide +kernel), gw_t1 13 (by decide +kernel) (by decide +kernel), ⟨by decide +kernel, by decide +kernel, by decide +kernel⟩, by decide +kernel⟩
theorem mO_M_isSheet : mOK mM_isSheet 1 := ⟨by decide +kernel, gw_t6 91 rfl (by decide +kernel), gw_t1 13 (by decide +kernel) (by decide +kernel), ⟨by decide +kernel, by decide +kernel, by decide +kernel⟩, by decide +kernel⟩
theorem mO_M_voice : mOK mM_voice 3 := ⟨by decide +kernel, gw_t6 95 rfl (by decide +kernel), gw_t1 13 (by decide +kernel) (by decide +kernel), ⟨by decide +kernel, by decide +kernel, by decide +kernel⟩, by decide +kernel⟩
theorem mO_M_voiced : mOK mM_voiced 2 := ⟨by decide +kernel, gw_t6 99 rfl (by decide +kernel), gw_t1 13 (by decide +kernel) (by decide +kernel), ⟨by decide +kernel, by decide +kernel, by decide +kernel⟩, by decide +kernel⟩
theorem mO_M_bodyFrom : mOK mM_bodyFrom 3 := ⟨by decide +kernel, gw_t6 103 rfl (by decide +kernel), gw_t1 13 (by decide +kernel) (by decide +kernel), ⟨by decide +kernel, by decide +kernel, by decide +kernel⟩, by decide +kernel⟩
theorem mO_M_hasOwn : mOK mM_hasOwn 2 := ⟨by decide +kernel, gw_t6 106 rfl (by decide +kernel), gw_t1 13 (by decide +kernel) (by decide +kernel), ⟨by decide +kernel, by decide +kernel, by decide +kernel⟩, by decide +kernel⟩
theorem mO_M_body : mOK mM_body 3 := ⟨by decide +kernel, gw_t6 110 rfl (by decide +kernel), gw_t1 13 (by decide +kernel) (by decide +kernel), ⟨by decide +kernel, by decide +kernel, by decide +kernel⟩, by decide +kernel⟩
theorem mO_M_began : mOK mM_began 1 := ⟨by decide +kernel, gw_t6 114 rfl (by decide +kernel), gw_t1 13 (by decide +kernel) (by decide +kernel), ⟨by decide +kernel, by decide +kernel, by decide +kernel⟩, by decide +kernel⟩
theorem mO_M_trace : mOK mM_trace 1 := ⟨by decide +kernel, gw_t6 118 rfl (by decide +kernel), gw_t1 13 (by decide +kernel) (by decide +kernel), ⟨by decide +kernel, by decide +kernel, by decide +kernel⟩, by decide +kernel⟩
theorem mO_M_sheet : mOK mM_sheet 3 := ⟨by decide +kernel, gw_t6 122 rfl (by decide +kernel), gw_t1 13 (by decide +kernel) (by decide +kernel), ⟨by decide +kernel, by decide +kernel, by decide +kernel⟩, by decide +kernel⟩
theorem mO_M_isWidth : mOK mM_isWidth 1 := ⟨by decide +kernel, gw_t6 125 rfl (by decide +kernel), gw_t1 13 (by decide +kernel) (by decide +kernel), ⟨by decide +kernel, by decide +kernel, by decide +kernel⟩, by decide +kernel⟩
theorem mO_M_put3 : mOK mM_put3 3 := ⟨by decide +kernel, gw_t6 129 rfl (by decide +kernel), gw_t1 13 (by decide +kernel) (by decide +kernel), ⟨by decide +kernel, by decide +kernel, by decide +kernel⟩, by decide +kernel⟩
theorem mO_M_move : mOK mM_move 5 := ⟨by decide +kernel, gw_t6 133 rfl (by decide +kernel), gw_t1 13 (by decide +kernel) (by decide +kernel), ⟨by decide +kernel, by decide +kernel, by decide +kernel⟩, by decide +kernel⟩
theorem mO_M_image : mOK mM_image 0 := ⟨by decide +kernel, gw_t6 137 rfl (by decide +kernel), gw_t1 13 (by decide +kernel) (by decide +kernel), ⟨by decide +kernel, by decide +kernel, by decide +kernel⟩, by decide +kernel⟩
theorem mO_M_restore : mOK mM_restore 0 := ⟨by decide +kernel, gw_t6 141 rfl (by decide +kernel), gw_t1 13 (by decide +kernel) (by decide +kernel), ⟨by decide +kernel, by decide +kernel, by decide +kernel⟩, by decide +kernel⟩
theorem mO_M_told : mOK mM_told 1 := ⟨by decide +kernel, gw_t6 145 rfl (by decide +kernel), gw_t1 13 (by decide +kernel) (by decide +kernel), ⟨by decide +kernel, by decide +kernel, by decide +kernel⟩, by decide +kernel⟩
theorem mO_M_found : mOK mM_found 1 := ⟨by decide +kernel, gw_t6 149 rfl (by decide +kernel), gw_t1 13 (by decide +kernel) (by decide +kernel), ⟨by decide +kernel, by decide +kernel, by decide +kernel⟩, by decide +kernel⟩
theorem aO_D_40 : Cond.classLink "WhoseDelay" 40 "WhoseDelay$Sheet" ∈ gw := gw_t2 70 (by decide +kernel) (by decide +kernel)
theorem fO_D_12 : fOK "WhoseDelay" 12 10 0 10 := ⟨RX10, TX10, rfl, by decide, by decide, inX10, tyX10_ok, nmX10, gw_t2 92 (by decide +kernel) (by decide +kernel)⟩
theorem fO_D_16 : fOK "WhoseDelay" 16 10 1 10 := ⟨RX10, TX10, rfl, by decide, by decide, inX10, tyX10_ok, nmX10, gw_t2 93 (by decide +kernel) (by decide +kernel)⟩
theorem fO_D_22 : fOK "WhoseDelay" 22 10 2 10 := ⟨RX10, TX10, rfl, by decide, by decide, inX10, tyX10_ok, nmX10, gw_t2 94 (by decide +kernel) (by decide +kernel)⟩
theorem fO_D_29 : fOK "WhoseDelay" 29 10 3 10 := ⟨RX10, TX10, rfl, by decide, by decide, inX10, tyX10_ok, nmX10, gw_t2 95 (by decide +kernel) (by decide +kernel)⟩
theorem fO_D_36 : fOK "WhoseDelay" 36 10 4 10 := ⟨RX10, TX10, rfl, by decide, by decide, inX10, tyX10_ok, nmX10, gw_t2 96 (by decide +kernel) (by decide +kernel)⟩
theorem fO_D_42 : fOK "WhoseDelay" 42 10 5 10 := ⟨RX10, TX10, rfl, by decide, by decide, inX10, tyX10_ok, nmX10, gw_t2 97 (by decide +kernel) (by decide +kernel)⟩
theorem fO_D_46 : fOK "WhoseDelay" 46 10 6 10 := ⟨RX10, TX10, rfl, by decide, by decide, inX10, tyX10_ok, nmX10, gw_t2 98 (by decide +kernel) (by decide +kernel)⟩
theorem fO_D_50 : fOK "WhoseDelay" 50 10 7 10 := ⟨RX10, TX10, rfl, by decide, by decide, inX10, tyX10_ok, nmX10, gw_t2 99 (by decide +kernel) (by decide +kernel)⟩
theorem fO_D_53 : fOK "WhoseDelay" 53 10 8 10 := ⟨RX10, TX10, rfl, by decide, by decide, inX10, tyX10_ok, nmX10, gw_t2 100 (by decide +kernel) (by decide +kernel)⟩
theorem fO_D_56 : fOK "WhoseDelay" 56 10 9 10 := ⟨RX10, TX10, rfl, by decide, by decide, inX10, tyX10_ok, nmX10, gw_t2 101 (by decide +kernel) (by decide +kernel)⟩
theorem fO_D_74 : fOK "WhoseDelay" 74 7 1 6 := ⟨RX7, TX7, rfl, by decide, by decide, inX7, tyX7_ok, nmX7, gw_t1 215 (by decide +kernel) (by decide +kernel)⟩
theorem fO_D_78 : fOK "WhoseDelay" 78 9 6 8 := ⟨RX9, TX9, rfl, by decide, by decide, inX9, tyX9_ok, nmX9, gw_t1 92 (by decide +kernel) (by decide +kernel)⟩
theorem fO_D_91 : fOK "WhoseDelay" 91 9 0 8 := ⟨RX9, TX9, rfl, by decide, by decide, inX9, tyX9_ok, nmX9, gw_t1 79 (by decide +kernel) (by decide +kernel)⟩
theorem fO_D_99 : fOK "WhoseDelay" 99 9 1 8 := ⟨RX9, TX9, rfl, by decide, by decide, inX9, tyX9_ok, nmX9, gw_t1 83 (by decide +kernel) (by decide +kernel)⟩
theorem fO_D_102 : fOK "WhoseDelay" 102 7 4 6 := ⟨RX7, TX7, rfl, by decide, by decide, inX7, tyX7_ok, nmX7, gw_t1 222 (by decide +kernel) (by decide +kernel)⟩
theorem fO_D_118 : fOK "WhoseDelay" 118 9 7 8 := ⟨RX9, TX9, rfl, by decide, by decide, inX9, tyX9_ok, nmX9, gw_t1 95 (by decide +kernel) (by decide +kernel)⟩
theorem fO_D_129 : fOK "WhoseDelay" 129 7 0 6 := ⟨RX7, TX7, rfl, by decide, by decide, inX7, tyX7_ok, nmX7, gw_t1 212 (by decide +kernel) (by decide +kernel)⟩
theorem fO_D_142 : fOK "WhoseDelay" 142 7 5 6 := ⟨RX7, TX7, rfl, by decide, by decide, inX7, tyX7_ok, nmX7, gw_t1 224 (by decide +kernel) (by decide +kernel)⟩
theorem fO_D_148 : fOK "WhoseDelay" 148 7 2 6 := ⟨RX7, TX7, rfl, by decide, by decide, inX7, tyX7_ok, nmX7, gw_t1 218 (by decide +kernel) (by decide +kernel)⟩
theorem fO_D_152 : fOK "WhoseDelay" 152 2 7 8 := ⟨RX2, TX2, rfl, by decide, by decide, inX2, tyX2_ok, nmX2, gw_t1 137 (by decide +kernel) (by decide +kernel)⟩
theorem fO_D_159 : fOK "WhoseDelay" 159 2 2 8 := ⟨RX2, TX2, rfl, by decide, by decide, inX2, tyX2_ok, nmX2, gw_t1 125 (by decide +kernel) (by decide +kernel)⟩
theorem fO_D_162 : fOK "WhoseDelay" 162 2 4 8 := ⟨RX2, TX2, rfl, by decide, by decide, inX2, tyX2_ok, nmX2, gw_t1 130 (by decide +kernel) (by decide +kernel)⟩
theorem fO_D_165 : fOK "WhoseDelay" 165 2 6 8 := ⟨RX2, TX2, rfl, by decide, by decide, inX2, tyX2_ok, nmX2, gw_t1 134 (by decide +kernel) (by decide +kernel)⟩
theorem fO_D_168 : fOK "WhoseDelay" 168 2 5 8 := ⟨RX2, TX2, rfl, by decide, by decide, inX2, tyX2_ok, nmX2, gw_t1 132 (by decide +kernel) (by decide +kernel)⟩
theorem fO_D_171 : fOK "WhoseDelay" 171 2 0 8 := ⟨RX2, TX2, rfl, by decide, by decide, inX2, tyX2_ok, nmX2, gw_t1 121 (by decide +kernel) (by decide +kernel)⟩
theorem fO_D_174 : fOK "WhoseDelay" 174 2 1 8 := ⟨RX2, TX2, rfl, by decide, by decide, inX2, tyX2_ok, nmX2, gw_t1 123 (by decide +kernel) (by decide +kernel)⟩
theorem fO_D_177 : fOK "WhoseDelay" 177 2 3 8 := ⟨RX2, TX2, rfl, by decide, by decide, inX2, tyX2_ok, nmX2, gw_t1 128 (by decide +kernel) (by decide +kernel)⟩
theorem fO_D_195 : fOK "WhoseDelay" 195 4 1 3 := ⟨RX4, TX4, rfl, by decide, by decide, inX4, tyX4_ok, nmX4, gw_t2 7 (by decide +kernel) (by decide +kernel)⟩
theorem fO_D_198 : fOK "WhoseDelay" 198 4 2 3 := ⟨RX4, TX4, rfl, by decide, by decide, inX4, tyX4_ok, nmX4, gw_t2 9 (by decide +kernel) (by decide +kernel)⟩
theorem fO_D_227 : fOK "WhoseDelay" 227 7 3 6 := ⟨RX7, TX7, rfl, by decide, by decide, inX7, tyX7_ok, nmX7, gw_t1 220 (by decide +kernel) (by decide +kernel)⟩
theorem fO_D_231 : fOK "WhoseDelay" 231 0 5 7 := ⟨RX0, TX0, rfl, by decide, by decide, inX0, tyX0_ok, nmX0, gw_t1 170 (by decide +kernel) (by decide +kernel)⟩
theorem fO_D_243 : fOK "WhoseDelay" 243 0 6 7 := ⟨RX0, TX0, rfl, by decide, by decide, inX0, tyX0_ok, nmX0, gw_t1 172 (by decide +kernel) (by decide +kernel)⟩
theorem fO_D_244 : fOK "WhoseDelay" 244 0 0 7 := ⟨RX0, TX0, rfl, by decide, by decide, inX0, tyX0_ok, nmX0, gw_t1 162 (by decide +kernel) (by decide +kernel)⟩
theorem fO_D_278 : fOK "WhoseDelay" 278 3 3 4 := ⟨RX3, TX3, rfl, by decide, by decide, inX3, tyX3_ok, nmX3, gw_t1 200 (by decide +kernel) (by decide +kernel)⟩
theorem fO_D_287 : fOK "WhoseDelay" 287 6 1 3 := ⟨RX6, TX6, rfl, by decide, by decide, inX6, tyX6_ok, nmX6, gw_t2 81 (by decide +kernel) (by decide +kernel)⟩
theorem fO_D_294 : fOK "WhoseDelay" 294 6 0 3 := ⟨RX6, TX6, rfl, by decide, by decide, inX6, tyX6_ok, nmX6, gw_t2 79 (by decide +kernel) (by decide +kernel)⟩
theorem fO_D_305 : fOK "WhoseDelay" 305 9 2 8 := ⟨RX9, TX9, rfl, by decide, by decide, inX9, tyX9_ok, nmX9, gw_t1 85 (by decide +kernel) (by decide +kernel)⟩
theorem fO_D_312 : fOK "WhoseDelay" 312 8 1 5 := ⟨RX8, TX8, rfl, by decide, by decide, inX8, tyX8_ok, nmX8, gw_t2 55 (by decide +kernel) (by decide +kernel)⟩
theorem fO_D_313 : fOK "WhoseDelay" 313 8 0 5 := ⟨RX8, TX8, rfl, by decide, by decide, inX8, tyX8_ok, nmX8, gw_t2 53 (by decide +kernel) (by decide +kernel)⟩
theorem fO_D_320 : fOK "WhoseDelay" 320 6 2 3 := ⟨RX6, TX6, rfl, by decide, by decide, inX6, tyX6_ok, nmX6, gw_t2 84 (by decide +kernel) (by decide +kernel)⟩
theorem fO_D_341 : fOK "WhoseDelay" 341 1 2 5 := ⟨RX1, TX1, rfl, by decide, by decide, inX1, tyX1_ok, nmX1, gw_t1 56 (by decide +kernel) (by decide +kernel)⟩
theorem fO_D_356 : fOK "WhoseDelay" 356 4 0 3 := ⟨RX4, TX4, rfl, by decide, by decide, inX4, tyX4_ok, nmX4, gw_t2 5 (by decide +kernel) (by decide +kernel)⟩
theorem fO_D_376 : fOK "WhoseDelay" 376 5 0 7 := ⟨RX5, TX5, rfl, by decide, by decide, inX5, tyX5_ok, nmX5, gw_t2 24 (by decide +kernel) (by decide +kernel)⟩
theorem fO_D_389 : fOK "WhoseDelay" 389 0 1 7 := ⟨RX0, TX0, rfl, by decide, by decide, inX0, tyX0_ok, nmX0, gw_t1 164 (by decide +kernel) (by decide +kernel)⟩
theorem fO_D_392 : fOK "WhoseDelay" 392 0 2 7 := ⟨RX0, TX0, rfl, by decide, by decide, inX0, tyX0_ok, nmX0, gw_t1 166 (by decide +kernel) (by decide +kernel)⟩
theorem fO_D_394 : fOK "WhoseDelay" 394 3 0 4 := ⟨RX3, TX3, rfl, by decide, by decide, inX3, tyX3_ok, nmX3, gw_t1 196 (by decide +kernel) (by decide +kernel)⟩
theorem fO_C_9 : fOK "WhoseDelay$Contract" 9 0 0 7 := ⟨RX0, TX0, rfl, by decide, by decide, inX0, tyX0_ok, nmX0, gw_t1 161 (by decide +kernel) (by decide +kernel)⟩
theorem fO_C_15 : fOK "WhoseDelay$Contract" 15 0 1 7 := ⟨RX0, TX0, rfl, by decide, by decide, inX0, tyX0_ok, nmX0, gw_t1 163 (by decide +kernel) (by decide +kernel)⟩
theorem fO_C_18 : fOK "WhoseDelay$Contract" 18 0 2 7 := ⟨RX0, TX0, rfl, by decide, by decide, inX0, tyX0_ok, nmX0, gw_t1 165 (by decide +kernel) (by decide +kernel)⟩
theorem fO_C_22 : fOK "WhoseDelay$Contract" 22 0 3 7 := ⟨RX0, TX0, rfl, by decide, by decide, inX0, tyX0_ok, nmX0, gw_t1 167 (by decide +kernel) (by decide +kernel)⟩
theorem fO_C_25 : fOK "WhoseDelay$Contract" 25 0 4 7 := ⟨RX0, TX0, rfl, by decide, by decide, inX0, tyX0_ok, nmX0, gw_t1 168 (by decide +kernel) (by decide +kernel)⟩
theorem fO_C_28 : fOK "WhoseDelay$Contract" 28 0 5 7 := ⟨RX0, TX0, rfl, by decide, by decide, inX0, tyX0_ok, nmX0, gw_t1 169 (by decide +kernel) (by decide +kernel)⟩
theorem fO_C_32 : fOK "WhoseDelay$Contract" 32 0 6 7 := ⟨RX0, TX0, rfl, by decide, by decide, inX0, tyX0_ok, nmX0, gw_t1 171 (by decide +kernel) (by decide +kernel)⟩
theorem fO_Y_9 : fOK "WhoseDelay$Days" 9 1 0 5 := ⟨RX1, TX1, rfl, by decide, by decide, inX1, tyX1_ok, nmX1, gw_t1 53 (by decide +kernel) (by decide +kernel)⟩
theorem fO_Y_15 : fOK "WhoseDelay$Days" 15 1 1 5 := ⟨RX1, TX1, rfl, by decide, by decide, inX1, tyX1_ok, nmX1, gw_t1 54 (by decide +kernel) (by decide +kernel)⟩
theorem fO_Y_19 : fOK "WhoseDelay$Days" 19 1 2 5 := ⟨RX1, TX1, rfl, by decide, by decide, inX1, tyX1_ok, nmX1, gw_t1 55 (by decide +kernel) (by decide +kernel)⟩
theorem fO_Y_23 : fOK "WhoseDelay$Days" 23 1 3 5 := ⟨RX1, TX1, rfl, by decide, by decide, inX1, tyX1_ok, nmX1, gw_t1 57 (by decide +kernel) (by decide +kernel)⟩
theorem fO_Y_32 : fOK "WhoseDelay$Days" 32 1 4 5 := ⟨RX1, TX1, rfl, by decide, by decide, inX1, tyX1_ok, nmX1, gw_t1 58 (by decide +kernel) (by decide +kernel)⟩
theorem fO_E_9 : fOK "WhoseDelay$Events" 9 2 0 8 := ⟨RX2, TX2, rfl, by decide, by decide, inX2, tyX2_ok, nmX2, gw_t1 119 (by decide +kernel) (by decide +kernel)⟩
theorem fO_E_15 : fOK "WhoseDelay$Events" 15 2 1 8 := ⟨RX2, TX2, rfl, by decide, by decide, inX2, tyX2_ok, nmX2, gw_t1 122 (by decide +kernel) (by decide +kernel)⟩
theorem fO_E_18 : fOK "WhoseDelay$Events" 18 2 2 8 := ⟨RX2, TX2, rfl, by decide, by decide, inX2, tyX2_ok, nmX2, gw_t1 124 (by decide +kernel) (by decide +kernel)⟩
theorem fO_E_21 : fOK "WhoseDelay$Events" 21 2 3 8 := ⟨RX2, TX2, rfl, by decide, by decide, inX2, tyX2_ok, nmX2, gw_t1 126 (by decide +kernel) (by decide +kernel)⟩
theorem fO_E_24 : fOK "WhoseDelay$Events" 24 2 4 8 := ⟨RX2, TX2, rfl, by decide, by decide, inX2, tyX2_ok, nmX2, gw_t1 129 (by decide +kernel) (by decide +kernel)⟩
theorem fO_E_27 : fOK "WhoseDelay$Events" 27 2 5 8 := ⟨RX2, TX2, rfl, by decide, by decide, inX2, tyX2_ok, nmX2, gw_t1 131 (by decide +kernel) (by decide +kernel)⟩
theorem fO_E_30 : fOK "WhoseDelay$Events" 30 2 6 8 := ⟨RX2, TX2, rfl, by decide, by decide, inX2, tyX2_ok, nmX2, gw_t1 133 (by decide +kernel) (by decide +kernel)⟩
theorem fO_E_33 : fOK "WhoseDelay$Events" 33 2 7 8 := ⟨RX2, TX2, rfl, by decide, by decide, inX2, tyX2_ok, nmX2, gw_t1 135 (by decide +kernel) (by decide +kernel)⟩
theorem fO_H_9 : fOK "WhoseDelay$Haste" 9 3 0 4 := ⟨RX3, TX3, rfl, by decide, by decide, inX3, tyX3_ok, nmX3, gw_t1 195 (by decide +kernel) (by decide +kernel)⟩
theorem fO_H_15 : fOK "WhoseDelay$Haste" 15 3 1 4 := ⟨RX3, TX3, rfl, by decide, by decide, inX3, tyX3_ok, nmX3, gw_t1 197 (by decide +kernel) (by decide +kernel)⟩
theorem fO_H_18 : fOK "WhoseDelay$Haste" 18 3 2 4 := ⟨RX3, TX3, rfl, by decide, by decide, inX3, tyX3_ok, nmX3, gw_t1 198 (by decide +kernel) (by decide +kernel)⟩
theorem fO_H_21 : fOK "WhoseDelay$Haste" 21 3 3 4 := ⟨RX3, TX3, rfl, by decide, by decide, inX3, tyX3_ok, nmX3, gw_t1 199 (by decide +kernel) (by decide +kernel)⟩
theorem fO_H_31 : fOK "WhoseDelay$Haste" 31 6 2 3 := ⟨RX6, TX6, rfl, by decide, by decide, inX6, tyX6_ok, nmX6, gw_t2 83 (by decide +kernel) (by decide +kernel)⟩
theorem fO_H_36 : fOK "WhoseDelay$Haste" 36 6 0 3 := ⟨RX6, TX6, rfl, by decide, by decide, inX6, tyX6_ok, nmX6, gw_t2 78 (by decide +kernel) (by decide +kernel)⟩
theorem fO_P_9 : fOK "WhoseDelay$Plan" 9 4 0 3 := ⟨RX4, TX4, rfl, by decide, by decide, inX4, tyX4_ok, nmX4, gw_t2 4 (by decide +kernel) (by decide +kernel)⟩
theorem fO_P_15 : fOK "WhoseDelay$Plan" 15 4 1 3 := ⟨RX4, TX4, rfl, by decide, by decide, inX4, tyX4_ok, nmX4, gw_t2 6 (by decide +kernel) (by decide +kernel)⟩
theorem fO_P_18 : fOK "WhoseDelay$Plan" 18 4 2 3 := ⟨RX4, TX4, rfl, by decide, by decide, inX4, tyX4_ok, nmX4, gw_t2 8 (by decide +kernel) (by decide +kernel)⟩
theorem fO_P_21 : fOK "WhoseDelay$Plan" 21 7 1 6 := ⟨RX7, TX7, rfl, by decide, by decide, inX7, tyX7_ok, nmX7, gw_t1 214 (by decide +kernel) (by decide +kernel)⟩
theorem fO_P_27 : fOK "WhoseDelay$Plan" 27 7 2 6 := ⟨RX7, TX7, rfl, by decide, by decide, inX7, tyX7_ok, nmX7, gw_t1 217 (by decide +kernel) (by decide +kernel)⟩
theorem fO_P_31 : fOK "WhoseDelay$Plan" 31 9 1 8 := ⟨RX9, TX9, rfl, by decide, by decide, inX9, tyX9_ok, nmX9, gw_t1 82 (by decide +kernel) (by decide +kernel)⟩
theorem fO_P_42 : fOK "WhoseDelay$Plan" 42 2 7 8 := ⟨RX2, TX2, rfl, by decide, by decide, inX2, tyX2_ok, nmX2, gw_t1 136 (by decide +kernel) (by decide +kernel)⟩
theorem fO_P_52 : fOK "WhoseDelay$Plan" 52 2 0 8 := ⟨RX2, TX2, rfl, by decide, by decide, inX2, tyX2_ok, nmX2, gw_t1 120 (by decide +kernel) (by decide +kernel)⟩
theorem fO_P_55 : fOK "WhoseDelay$Plan" 55 2 3 8 := ⟨RX2, TX2, rfl, by decide, by decide, inX2, tyX2_ok, nmX2, gw_t1 127 (by decide +kernel) (by decide +kernel)⟩
theorem fO_P_58 : fOK "WhoseDelay$Plan" 58 9 6 8 := ⟨RX9, TX9, rfl, by decide, by decide, inX9, tyX9_ok, nmX9, gw_t1 93 (by decide +kernel) (by decide +kernel)⟩
theorem fO_P_59 : fOK "WhoseDelay$Plan" 59 9 5 8 := ⟨RX9, TX9, rfl, by decide, by decide, inX9, tyX9_ok, nmX9, gw_t1 90 (by decide +kernel) (by decide +kernel)⟩
theorem fO_P_66 : fOK "WhoseDelay$Plan" 66 7 0 6 := ⟨RX7, TX7, rfl, by decide, by decide, inX7, tyX7_ok, nmX7, gw_t1 211 (by decide +kernel) (by decide +kernel)⟩
theorem fO_P_70 : fOK "WhoseDelay$Plan" 70 9 0 8 := ⟨RX9, TX9, rfl, by decide, by decide, inX9, tyX9_ok, nmX9, gw_t1 80 (by decide +kernel) (by decide +kernel)⟩
theorem fO_P_85 : fOK "WhoseDelay$Plan" 85 9 4 8 := ⟨RX9, TX9, rfl, by decide, by decide, inX9, tyX9_ok, nmX9, gw_t1 88 (by decide +kernel) (by decide +kernel)⟩
theorem fO_R_9 : fOK "WhoseDelay$Reader" 9 5 0 7 := ⟨RX5, TX5, rfl, by decide, by decide, inX5, tyX5_ok, nmX5, gw_t2 23 (by decide +kernel) (by decide +kernel)⟩
theorem fO_R_15 : fOK "WhoseDelay$Reader" 15 5 1 7 := ⟨RX5, TX5, rfl, by decide, by decide, inX5, tyX5_ok, nmX5, gw_t2 25 (by decide +kernel) (by decide +kernel)⟩
theorem fO_R_19 : fOK "WhoseDelay$Reader" 19 5 2 7 := ⟨RX5, TX5, rfl, by decide, by decide, inX5, tyX5_ok, nmX5, gw_t2 26 (by decide +kernel) (by decide +kernel)⟩
theorem fO_R_23 : fOK "WhoseDelay$Reader" 23 5 3 7 := ⟨RX5, TX5, rfl, by decide, by decide, inX5, tyX5_ok, nmX5, gw_t2 27 (by decide +kernel) (by decide +kernel)⟩
theorem fO_R_26 : fOK "WhoseDelay$Reader" 26 5 4 7 := ⟨RX5, TX5, rfl, by decide, by decide, inX5, tyX5_ok, nmX5, gw_t2 28 (by decide +kernel) (by decide +kernel)⟩
theorem fO_R_29 : fOK "WhoseDelay$Reader" 29 5 5 7 := ⟨RX5, TX5, rfl, by decide, by decide, inX5, tyX5_ok, nmX5, gw_t2 29 (by decide +kernel) (by decide +kernel)⟩
theorem fO_R_32 : fOK "WhoseDelay$Reader" 32 5 6 7 := ⟨RX5, TX5, rfl, by decide, by decide, inX5, tyX5_ok, nmX5, gw_t2 30 (by decide +kernel) (by decide +kernel)⟩
theorem fO_S_9 : fOK "WhoseDelay$Sheet" 9 6 0 3 := ⟨RX6, TX6, rfl, by decide, by decide, inX6, tyX6_ok, nmX6, gw_t2 77 (by decide +kernel) (by decide +kernel)⟩
theorem fO_S_15 : fOK "WhoseDelay$Sheet" 15 6 1 3 := ⟨RX6, TX6, rfl, by decide, by decide, inX6, tyX6_ok, nmX6, gw_t2 80 (by decide +kernel) (by decide +kernel)⟩
theorem fO_T_10 : fOK "WhoseDelay$Site" 10 7 0 6 := ⟨RX7, TX7, rfl, by decide, by decide, inX7, tyX7_ok, nmX7, gw_t1 210 (by decide +kernel) (by decide +kernel)⟩
theorem fO_T_19 : fOK "WhoseDelay$Site" 19 7 1 6 := ⟨RX7, TX7, rfl, by decide, by decide, inX7, tyX7_ok, nmX7, gw_t1 213 (by decide +kernel) (by decide +kernel)⟩
theorem fO_T_26 : fOK "WhoseDelay$Site" 26 7 2 6 := ⟨RX7, TX7, rfl, by decide, by decide, inX7, tyX7_ok, nmX7, gw_t1 216 (by decide +kernel) (by decide +kernel)⟩
theorem fO_T_33 : fOK "WhoseDelay$Site" 33 7 3 6 := ⟨RX7, TX7, rfl, by decide, by decide, inX7, tyX7_ok, nmX7, gw_t1 219 (by decide +kernel) (by decide +kernel)⟩
theorem fO_T_40 : fOK "WhoseDelay$Site" 40 7 4 6 := ⟨RX7, TX7, rfl, by decide, by decide, inX7, tyX7_ok, nmX7, gw_t1 221 (by decide +kernel) (by decide +kernel)⟩
theorem fO_T_44 : fOK "WhoseDelay$Site" 44 7 5 6 := ⟨RX7, TX7, rfl, by decide, by decide, inX7, tyX7_ok, nmX7, gw_t1 223 (by decide +kernel) (by decide +kernel)⟩
theorem fO_V_9 : fOK "WhoseDelay$Voices" 9 8 0 5 := ⟨RX8, TX8, rfl, by decide, by decide, inX8, tyX8_ok, nmX8, gw_t2 52 (by decide +kernel) (by decide +kernel)⟩
theorem fO_V_15 : fOK "WhoseDelay$Voices" 15 8 1 5 := ⟨RX8, TX8, rfl, by decide, by decide, inX8, tyX8_ok, nmX8, gw_t2 54 (by decide +kernel) (by decide +kernel)⟩
theorem fO_V_19 : fOK "WhoseDelay$Voices" 19 8 2 5 := ⟨RX8, TX8, rfl, by decide, by decide, inX8, tyX8_ok, nmX8, gw_t2 56 (by decide +kernel) (by decide +kernel)⟩
theorem fO_V_22 : fOK "WhoseDelay$Voices" 22 8 3 5 := ⟨RX8, TX8, rfl, by decide, by decide, inX8, tyX8_ok, nmX8, gw_t2 57 (by decide +kernel) (by decide +kernel)⟩
theorem fO_V_25 : fOK "WhoseDelay$Voices" 25 8 4 5 := ⟨RX8, TX8, rfl, by decide, by decide, inX8, tyX8_ok, nmX8, gw_t2 58 (by decide +kernel) (by decide +kernel)⟩
theorem fO_W_9 : fOK "WhoseDelay$Works" 9 9 0 8 := ⟨RX9, TX9, rfl, by decide, by decide, inX9, tyX9_ok, nmX9, gw_t1 78 (by decide +kernel) (by decide +kernel)⟩
theorem fO_W_15 : fOK "WhoseDelay$Works" 15 9 1 8 := ⟨RX9, TX9, rfl, by decide, by decide, inX9, tyX9_ok, nmX9, gw_t1 81 (by decide +kernel) (by decide +kernel)⟩
theorem fO_W_18 : fOK "WhoseDelay$Works" 18 9 2 8 := ⟨RX9, TX9, rfl, by decide, by decide, inX9, tyX9_ok, nmX9, gw_t1 84 (by decide +kernel) (by decide +kernel)⟩
theorem fO_W_21 : fOK "WhoseDelay$Works" 21 9 3 8 := ⟨RX9, TX9, rfl, by decide, by decide, inX9, tyX9_ok, nmX9, gw_t1 86 (by decide +kernel) (by decide +kernel)⟩
theorem fO_W_24 : fOK "WhoseDelay$Works" 24 9 4 8 := ⟨RX9, TX9, rfl, by decide, by decide, inX9, tyX9_ok, nmX9, gw_t1 87 (by decide +kernel) (by decide +kernel)⟩
theorem fO_W_27 : fOK "WhoseDelay$Works" 27 9 5 8 := ⟨RX9, TX9, rfl, by decide, by decide, inX9, tyX9_ok, nmX9, gw_t1 89 (by decide +kernel) (by decide +kernel)⟩
theorem fO_W_30 : fOK "WhoseDelay$Works" 30 9 6 8 := ⟨RX9, TX9, rfl, by decide, by decide, inX9, tyX9_ok, nmX9, gw_t1 91 (by decide +kernel) (by decide +kernel)⟩
theorem fO_W_34 : fOK "WhoseDelay$Works" 34 9 7 8 := ⟨RX9, TX9, rfl, by decide, by decide, inX9, tyX9_ok, nmX9, gw_t1 94 (by decide +kernel) (by decide +kernel)⟩
theorem fO_M_9 : fOK "WhoseDelayModel" 9 11 0 26 := ⟨RX11, TX11, rfl, by decide, by decide, inX11, tyX11_ok, nmX11, gw_t4 169 (by decide +kernel) (by decide +kernel)⟩
theorem fO_M_13 : fOK "WhoseDelayModel" 13 11 1 26 := ⟨RX11, TX11, rfl, by decide, by decide, inX11, tyX11_ok, nmX11, gw_t4 170 (by decide +kernel) (by decide +kernel)⟩
theorem fO_M_16 : fOK "WhoseDelayModel" 16 11 3 26 := ⟨RX11, TX11, rfl, by decide, by decide, inX11, tyX11_ok, nmX11, gw_t4 172 (by decide +kernel) (by decide +kernel)⟩
theorem fO_M_19 : fOK "WhoseDelayModel" 19 11 4 26 := ⟨RX11, TX11, rfl, by decide, by decide, inX11, tyX11_ok, nmX11, gw_t4 173 (by decide +kernel) (by decide +kernel)⟩
theorem fO_M_22 : fOK "WhoseDelayModel" 22 11 5 26 := ⟨RX11, TX11, rfl, by decide, by decide, inX11, tyX11_ok, nmX11, gw_t4 174 (by decide +kernel) (by decide +kernel)⟩
theorem fO_M_25 : fOK "WhoseDelayModel" 25 11 6 26 := ⟨RX11, TX11, rfl, by decide, by decide, inX11, tyX11_ok, nmX11, gw_t4 175 (by decide +kernel) (by decide +kernel)⟩
theorem fO_M_28 : fOK "WhoseDelayModel" 28 11 7 26 := ⟨RX11, TX11, rfl, by decide, by decide, inX11, tyX11_ok, nmX11, gw_t4 176 (by decide +kernel) (by decide +kernel)⟩
theorem fO_M_31 : fOK "WhoseDelayModel" 31 11 9 26 := ⟨RX11, TX11, rfl, by decide, by decide, inX11, tyX11_ok, nmX11, gw_t4 178 (by decide +kernel) (by decide +kernel)⟩
theorem fO_M_34 : fOK "WhoseDelayModel" 34 11 10 26 := ⟨RX11, TX11, rfl, by decide, by decide, inX11, tyX11_ok, nmX11, gw_t4 179 (by decide +kernel) (by decide +kernel)⟩
theorem fO_M_37 : fOK "WhoseDelayModel" 37 11 11 26 := ⟨RX11, TX11, rfl, by decide, by decide, inX11, tyX11_ok, nmX11, gw_t4 180 (by decide +kernel) (by decide +kernel)⟩
theorem fO_M_40 : fOK "WhoseDelayModel" 40 11 12 26 := ⟨RX11, TX11, rfl, by decide, by decide, inX11, tyX11_ok, nmX11, gw_t4 181 (by decide +kernel) (by decide +kernel)⟩
theorem fO_M_43 : fOK "WhoseDelayModel" 43 11 14 26 := ⟨RX11, TX11, rfl, by decide, by decide, inX11, tyX11_ok, nmX11, gw_t4 183 (by decide +kernel) (by decide +kernel)⟩
theorem fO_M_46 : fOK "WhoseDelayModel" 46 11 15 26 := ⟨RX11, TX11, rfl, by decide, by decide, inX11, tyX11_ok, nmX11, gw_t4 184 (by decide +kernel) (by decide +kernel)⟩
theorem fO_M_49 : fOK "WhoseDelayModel" 49 11 19 26 := ⟨RX11, TX11, rfl, by decide, by decide, inX11, tyX11_ok, nmX11, gw_t4 188 (by decide +kernel) (by decide +kernel)⟩
theorem fO_M_52 : fOK "WhoseDelayModel" 52 11 21 26 := ⟨RX11, TX11, rfl, by decide, by decide, inX11, tyX11_ok, nmX11, gw_t4 190 (by decide +kernel) (by decide +kernel)⟩
theorem fO_M_55 : fOK "WhoseDelayModel" 55 11 22 26 := ⟨RX11, TX11, rfl, by decide, by decide, inX11, tyX11_ok, nmX11, gw_t4 191 (by decide +kernel) (by decide +kernel)⟩
theorem fO_M_58 : fOK "WhoseDelayModel" 58 11 23 26 := ⟨RX11, TX11, rfl, by decide, by decide, inX11, tyX11_ok, nmX11, gw_t4 192 (by decide +kernel) (by decide +kernel)⟩
theorem fO_M_61 : fOK "WhoseDelayModel" 61 11 25 26 := ⟨RX11, TX11, rfl, by decide, by decide, inX11, tyX11_ok, nmX11, gw_t4 194 (by decide +kernel) (by decide +kernel)⟩
theorem fO_M_135 : fOK "WhoseDelayModel" 135 11 13 26 := ⟨RX11, TX11, rfl, by decide, by decide, inX11, tyX11_ok, nmX11, gw_t4 182 (by decide +kernel) (by decide +kernel)⟩
theorem fO_M_192 : fOK "WhoseDelayModel" 192 11 18 26 := ⟨RX11, TX11, rfl, by decide, by decide, inX11, tyX11_ok, nmX11, gw_t4 187 (by decide +kernel) (by decide +kernel)⟩
theorem fO_M_195 : fOK "WhoseDelayModel" 195 11 16 26 := ⟨RX11, TX11, rfl, by decide, by decide, inX11, tyX11_ok, nmX11, gw_t4 185 (by decide +kernel) (by decide +kernel)⟩
theorem fO_M_199 : fOK "WhoseDelayModel" 199 11 20 26 := ⟨RX11, TX11, rfl, by decide, by decide, inX11, tyX11_ok, nmX11, gw_t4 189 (by decide +kernel) (by decide +kernel)⟩
theorem fO_M_223 : fOK "WhoseDelayModel" 223 11 17 26 := ⟨RX11, TX11, rfl, by decide, by decide, inX11, tyX11_ok, nmX11, gw_t4 186 (by decide +kernel) (by decide +kernel)⟩
theorem fO_M_286 : fOK "WhoseDelayModel" 286 11 8 26 := ⟨RX11, TX11, rfl, by decide, by decide, inX11, tyX11_ok, nmX11, gw_t4 177 (by decide +kernel) (by decide +kernel)⟩
theorem fO_M_289 : fOK "WhoseDelayModel" 289 11 24 26 := ⟨RX11, TX11, rfl, by decide, by decide, inX11, tyX11_ok, nmX11, gw_t4 193 (by decide +kernel) (by decide +kernel)⟩
theorem fO_M_310 : fOK "WhoseDelayModel" 310 11 2 26 := ⟨RX11, TX11, rfl, by decide, by decide, inX11, tyX11_ok, nmX11, gw_t4 171 (by decide +kernel) (by decide +kernel)⟩
theorem sO_D_345 : Cond.fieldLink "WhoseDelay" 345 "WhoseDelay" "ABOVE" "[I" ∈ gw := gw_t2 155 (by decide +kernel) (by decide +kernel)
theorem sO_V_36 : Cond.fieldLinkNest "WhoseDelay$Voices" 36 "WhoseDelay" "BODIES" "[I" "WhoseDelay" ∈ nw := nw_t4 83 (by decide +kernel) (by decide +kernel)
theorem sO_V_43 : Cond.fieldLinkNest "WhoseDelay$Voices" 43 "WhoseDelay" "ABOVE" "[I" "WhoseDelay" ∈ nw := nw_t4 89 (by decide +kernel) (by decide +kernel)
theorem oO_D_3 : Cond.methodLink "WhoseDelay" 3 Lib.objectInit ∈ gw := gw_t1 21 (by decide +kernel) (by decide +kernel)
theorem lI_D_11 : lkI "WhoseDelay" 11 mT_init ∨ lkIN "WhoseDelay" 11 mT_init := Or.inr ⟨nw_t1 26 (by decide +kernel) (by decide +kernel), gw_t1 27 (by decide +kernel) (by decide +kernel), rfl, rfl⟩
theorem lI_D_21 : lkI "WhoseDelay" 21 mP_init ∨ lkIN "WhoseDelay" 21 mP_init := Or.inr ⟨nw_t2 0 (by decide +kernel) (by decide +kernel), gw_t2 1 (by decide +kernel) (by decide +kernel), rfl, rfl⟩
theorem lI_D_28 : lkI "WhoseDelay" 28 mR_init ∨ lkIN "WhoseDelay" 28 mR_init := Or.inr ⟨nw_t2 19 (by decide +kernel) (by decide +kernel), gw_t2 20 (by decide +kernel) (by decide +kernel), rfl, rfl⟩
theorem lI_D_35 : lkI "WhoseDelay" 35 mV_init ∨ lkIN "WhoseDelay" 35 mV_init := Or.inr ⟨nw_t2 48 (by decide +kernel) (by decide +kernel), gw_t2 49 (by decide +kernel) (by decide +kernel), rfl, rfl⟩
theorem lI_D_60 : lkI "WhoseDelay" 60 mS_init ∨ lkIN "WhoseDelay" 60 mS_init := Or.inr ⟨nw_t2 73 (by decide +kernel) (by decide +kernel), gw_t2 74 (by decide +kernel) (by decide +kernel), rfl, rfl⟩
theorem oO_C_3 : Cond.methodLink "WhoseDelay$Contract" 3 Lib.objectInit ∈ gw := gw_t1 160 (by decide +kernel) (by decide +kernel)
theorem oO_Y_3 : Cond.methodLink "WhoseDelay$Days" 3 Lib.objectInit ∈ gw := gw_t1 35 (by decide +kernel) (by decide +kernel)
theorem oO_E_3 : Cond.methodLink "WhoseDelay$Events" 3 Lib.objectInit ∈ gw := gw_t1 118 (by decide +kernel) (by decide +kernel)
theorem oO_H_3 : Cond.methodLink "WhoseDelay$Haste" 3 Lib.objectInit ∈ gw := gw_t1 194 (by decide +kernel) (by decide +kernel)
theorem oO_P_3 : Cond.methodLink "WhoseDelay$Plan" 3 Lib.objectInit ∈ gw := gw_t2 3 (by decide +kernel) (by decide +kernel)
theorem oO_R_3 : Cond.methodLink "WhoseDelay$Reader" 3 Lib.objectInit ∈ gw := gw_t2 22 (by decide +kernel) (by decide +kernel)
theorem oO_S_3 : Cond.methodLink "WhoseDelay$Sheet" 3 Lib.objectInit ∈ gw := gw_t2 76 (by decide +kernel) (by decide +kernel)
theorem oO_T_1 : Cond.methodLink "WhoseDelay$Site" 1 Lib.objectInit ∈ gw := gw_t1 29 (by decide +kernel) (by decide +kernel)
theorem lI_T_9 : lkI "WhoseDelay$Site" 9 mY_init ∨ lkIN "WhoseDelay$Site" 9 mY_init := Or.inl ⟨gw_t1 32 (by decide +kernel) (by decide +kernel), gw_t1 33 (by decide +kernel) (by decide +kernel), rfl, rfl⟩
theorem lI_T_18 : lkI "WhoseDelay$Site" 18 mW_init ∨ lkIN "WhoseDelay$Site" 18 mW_init := Or.inr ⟨nw_t1 74 (by decide +kernel) (by decide +kernel), gw_t1 75 (by decide +kernel) (by decide +kernel), rfl, rfl⟩
theorem lI_T_25 : lkI "WhoseDelay$Site" 25 mE_init ∨ lkIN "WhoseDelay$Site" 25 mE_init := Or.inr ⟨nw_t1 115 (by decide +kernel) (by decide +kernel), gw_t1 116 (by decide +kernel) (by decide +kernel), rfl, rfl⟩
theorem lI_T_32 : lkI "WhoseDelay$Site" 32 mC_init ∨ lkIN "WhoseDelay$Site" 32 mC_init := Or.inr ⟨nw_t1 157 (by decide +kernel) (by decide +kernel), gw_t1 158 (by decide +kernel) (by decide +kernel), rfl, rfl⟩
theorem lI_T_39 : lkI "WhoseDelay$Site" 39 mH_init ∨ lkIN "WhoseDelay$Site" 39 mH_init := Or.inr ⟨nw_t1 191 (by decide +kernel) (by decide +kernel), gw_t1 192 (by decide +kernel) (by decide +kernel), rfl, rfl⟩
theorem oO_V_3 : Cond.methodLink "WhoseDelay$Voices" 3 Lib.objectInit ∈ gw := gw_t2 51 (by decide +kernel) (by decide +kernel)
theorem oO_W_3 : Cond.methodLink "WhoseDelay$Works" 3 Lib.objectInit ∈ gw := gw_t1 77 (by decide +kernel) (by decide +kernel)
theorem lI_L_9 : lkI "WhoseDelayLaw" 9 mD_init ∨ lkIN "WhoseDelayLaw" 9 mD_init := Or.inl ⟨gw_t1 18 (by decide +kernel) (by decide +kernel), gw_t1 19 (by decide +kernel) (by decide +kernel), rfl, rfl⟩
theorem lI_L_12 : lkI "WhoseDelayLaw" 12 mM_init ∨ lkIN "WhoseDelayLaw" 12 mM_init := Or.inl ⟨gw_t4 161 (by decide +kernel) (by decide +kernel), gw_t4 162 (by decide +kernel) (by decide +kernel), rfl, rfl⟩
theorem oO_M_3 : Cond.methodLink "WhoseDelayModel" 3 Lib.objectInit ∈ gw := gw_t4 164 (by decide +kernel) (by decide +kernel)
theorem lS_D_61 : lkS "WhoseDelay" 61 mD_isKind ∨ lkSN "WhoseDelay" 61 mD_isKind := Or.inl ⟨gw_t2 127 (by decide +kernel) (by decide +kernel), gw_t2 128 (by decide +kernel) (by decide +kernel)⟩
theorem lS_D_65 : lkS "WhoseDelay" 65 mD_within ∨ lkSN "WhoseDelay" 65 mD_within := Or.inl ⟨gw_t2 130 (by decide +kernel) (by decide +kernel), gw_t2 131 (by decide +kernel) (by decide +kernel)⟩
theorem lS_D_94 : lkS "WhoseDelay" 94 mD_isUnder ∨ lkSN "WhoseDelay" 94 mD_isUnder := Or.inl ⟨gw_t2 152 (by decide +kernel) (by decide +kernel), gw_t2 153 (by decide +kernel) (by decide +kernel)⟩
theorem lS_D_145 : lkS "WhoseDelay" 145 mD_isCause ∨ lkSN "WhoseDelay" 145 mD_isCause := Or.inl ⟨gw_t2 228 (by decide +kernel) (by decide +kernel), gw_t2 229 (by decide +kernel) (by decide +kernel)⟩
theorem lS_D_180 : lkS "WhoseDelay" 180 mD_isDay ∨ lkSN "WhoseDelay" 180 mD_isDay := Or.inl ⟨gw_t3 15 (by decide +kernel) (by decide +kernel), gw_t3 16 (by decide +kernel) (by decide +kernel)⟩
theorem lS_D_209 : lkS "WhoseDelay" 209 mD_holds ∨ lkSN "WhoseDelay" 209 mD_holds := Or.inl ⟨gw_t3 89 (by decide +kernel) (by decide +kernel), gw_t1 47 (by decide +kernel) (by decide +kernel)⟩
theorem lS_D_240 : lkS "WhoseDelay" 240 mD_isUse ∨ lkSN "WhoseDelay" 240 mD_isUse := Or.inl ⟨gw_t3 143 (by decide +kernel) (by decide +kernel), gw_t3 144 (by decide +kernel) (by decide +kernel)⟩
theorem lS_D_284 : lkS "WhoseDelay" 284 mD_isSheet ∨ lkSN "WhoseDelay" 284 mD_isSheet := Or.inl ⟨gw_t4 62 (by decide +kernel) (by decide +kernel), gw_t4 63 (by decide +kernel) (by decide +kernel)⟩
theorem aC_D_326 : acOK "WhoseDelay" 326 := ⟨gw_t4 53 (by decide +kernel) (by decide +kernel), gw_t3 40 (by decide +kernel) (by decide +kernel), gw_t3 39 (by decide +kernel) (by decide +kernel), gw_t1 15 (by decide +kernel) (by decide +kernel)⟩
theorem lS_D_336 : lkS "WhoseDelay" 336 mJ_bitCount ∨ lkSN "WhoseDelay" 336 mJ_bitCount := Or.inl ⟨gw_t4 154 (by decide +kernel) (by decide +kernel), gw_t1 37 (by decide +kernel) (by decide +kernel)⟩
theorem lS_D_368 : lkS "WhoseDelay" 368 mJ_min ∨ lkSN "WhoseDelay" 368 mJ_min := Or.inl ⟨gw_t3 237 (by decide +kernel) (by decide +kernel), gw_t3 238 (by decide +kernel) (by decide +kernel)⟩
theorem lS_D_373 : lkS "WhoseDelay" 373 mJ_max ∨ lkSN "WhoseDelay" 373 mJ_max := Or.inl ⟨gw_t4 0 (by decide +kernel) (by decide +kernel), gw_t2 210 (by decide +kernel) (by decide +kernel)⟩
theorem aC_C_35 : acOK "WhoseDelay$Contract" 35 := ⟨gw_t3 204 (by decide +kernel) (by decide +kernel), gw_t3 40 (by decide +kernel) (by decide +kernel), gw_t3 39 (by decide +kernel) (by decide +kernel), gw_t1 15 (by decide +kernel) (by decide +kernel)⟩
theorem lS_Y_26 : lkS "WhoseDelay$Days" 26 mJ_bitCount ∨ lkSN "WhoseDelay$Days" 26 mJ_bitCount := Or.inl ⟨gw_t1 36 (by decide +kernel) (by decide +kernel), gw_t1 37 (by decide +kernel) (by decide +kernel)⟩
theorem aC_Y_39 : acOK "WhoseDelay$Days" 39 := ⟨gw_t4 126 (by decide +kernel) (by decide +kernel), gw_t3 40 (by decide +kernel) (by decide +kernel), gw_t3 39 (by decide +kernel) (by decide +kernel), gw_t1 15 (by decide +kernel) (by decide +kernel)⟩
theorem lS_Y_45 : lkS "WhoseDelay$Days" 45 mJ_max ∨ lkSN "WhoseDelay$Days" 45 mJ_max := Or.inl ⟨gw_t2 209 (by decide +kernel) (by decide +kernel), gw_t2 210 (by decide +kernel) (by decide +kernel)⟩
theorem lS_Y_61 : lkS "WhoseDelay$Days" 61 mD_holds ∨ lkSN "WhoseDelay$Days" 61 mD_holds := Or.inr ⟨nw_t1 46 (by decide +kernel) (by decide +kernel), gw_t1 47 (by decide +kernel) (by decide +kernel)⟩
theorem aC_E_37 : acOK "WhoseDelay$Events" 37 := ⟨gw_t4 136 (by decide +kernel) (by decide +kernel), gw_t3 40 (by decide +kernel) (by decide +kernel), gw_t3 39 (by decide +kernel) (by decide +kernel), gw_t1 15 (by decide +kernel) (by decide +kernel)⟩
theorem lS_E_43 : lkS "WhoseDelay$Events" 43 mD_holds ∨ lkSN "WhoseDelay$Events" 43 mD_holds := Or.inr ⟨nw_t3 98 (by decide +kernel) (by decide +kernel), gw_t1 47 (by decide +kernel) (by decide +kernel)⟩
theorem aC_H_25 : acOK "WhoseDelay$Haste" 25 := ⟨gw_t4 145 (by decide +kernel) (by decide +kernel), gw_t3 40 (by decide +kernel) (by decide +kernel), gw_t3 39 (by decide +kernel) (by decide +kernel), gw_t1 15 (by decide +kernel) (by decide +kernel)⟩
theorem lS_H_39 : lkS "WhoseDelay$Haste" 39 mD_within ∨ lkSN "WhoseDelay$Haste" 39 mD_within := Or.inr ⟨nw_t4 69 (by decide +kernel) (by decide +kernel), gw_t2 131 (by decide +kernel) (by decide +kernel)⟩
theorem aC_P_36 : acOK "WhoseDelay$Plan" 36 := ⟨gw_t3 38 (by decide +kernel) (by decide +kernel), gw_t3 40 (by decide +kernel) (by decide +kernel), gw_t3 39 (by decide +kernel) (by decide +kernel), gw_t1 15 (by decide +kernel) (by decide +kernel)⟩
theorem lS_P_48 : lkS "WhoseDelay$Plan" 48 mD_holds ∨ lkSN "WhoseDelay$Plan" 48 mD_holds := Or.inr ⟨nw_t3 41 (by decide +kernel) (by decide +kernel), gw_t1 47 (by decide +kernel) (by decide +kernel)⟩
theorem lS_P_79 : lkS "WhoseDelay$Plan" 79 mJ_max ∨ lkSN "WhoseDelay$Plan" 79 mJ_max := Or.inl ⟨gw_t3 63 (by decide +kernel) (by decide +kernel), gw_t2 210 (by decide +kernel) (by decide +kernel)⟩
theorem lS_R_50 : lkS "WhoseDelay$Reader" 50 mR_truth ∨ lkSN "WhoseDelay$Reader" 50 mR_truth := Or.inl ⟨gw_t3 186 (by decide +kernel) (by decide +kernel), gw_t3 187 (by decide +kernel) (by decide +kernel)⟩
theorem lS_R_73 : lkS "WhoseDelay$Reader" 73 mR_nameOf ∨ lkSN "WhoseDelay$Reader" 73 mR_nameOf := Or.inl ⟨gw_t3 193 (by decide +kernel) (by decide +kernel), gw_t3 194 (by decide +kernel) (by decide +kernel)⟩
theorem lS_V_32 : lkS "WhoseDelay$Voices" 32 mD_isKind ∨ lkSN "WhoseDelay$Voices" 32 mD_isKind := Or.inr ⟨nw_t4 82 (by decide +kernel) (by decide +kernel), gw_t2 128 (by decide +kernel) (by decide +kernel)⟩
theorem aC_W_37 : acOK "WhoseDelay$Works" 37 := ⟨gw_t4 131 (by decide +kernel) (by decide +kernel), gw_t3 40 (by decide +kernel) (by decide +kernel), gw_t3 39 (by decide +kernel) (by decide +kernel), gw_t1 15 (by decide +kernel) (by decide +kernel)⟩
theorem lS_W_43 : lkS "WhoseDelay$Works" 43 mD_holds ∨ lkSN "WhoseDelay$Works" 43 mD_holds := Or.inr ⟨nw_t2 175 (by decide +kernel) (by decide +kernel), gw_t1 47 (by decide +kernel) (by decide +kernel)⟩
theorem lS_W_50 : lkS "WhoseDelay$Works" 50 mJ_max ∨ lkSN "WhoseDelay$Works" 50 mJ_max := Or.inl ⟨gw_t3 50 (by decide +kernel) (by decide +kernel), gw_t2 210 (by decide +kernel) (by decide +kernel)⟩
theorem lS_M_68 : lkS "WhoseDelayModel" 68 mM_within ∨ lkSN "WhoseDelayModel" 68 mM_within := Or.inl ⟨gw_t5 13 (by decide +kernel) (by decide +kernel), gw_t5 14 (by decide +kernel) (by decide +kernel)⟩
theorem lS_M_91 : lkS "WhoseDelayModel" 91 mM_above ∨ lkSN "WhoseDelayModel" 91 mM_above := Or.inl ⟨gw_t5 36 (by decide +kernel) (by decide +kernel), gw_t5 37 (by decide +kernel) (by decide +kernel)⟩
theorem lS_M_102 : lkS "WhoseDelayModel" 102 mM_has ∨ lkSN "WhoseDelayModel" 102 mM_has := Or.inl ⟨gw_t5 66 (by decide +kernel) (by decide +kernel), gw_t5 67 (by decide +kernel) (by decide +kernel)⟩
theorem lS_M_128 : lkS "WhoseDelayModel" 128 mM_isDay ∨ lkSN "WhoseDelayModel" 128 mM_isDay := Or.inl ⟨gw_t5 115 (by decide +kernel) (by decide +kernel), gw_t5 116 (by decide +kernel) (by decide +kernel)⟩
theorem lS_M_139 : lkS "WhoseDelayModel" 139 mJ_max ∨ lkSN "WhoseDelayModel" 139 mJ_max := Or.inl ⟨gw_t5 155 (by decide +kernel) (by decide +kernel), gw_t2 210 (by decide +kernel) (by decide +kernel)⟩
theorem lS_M_237 : lkS "WhoseDelayModel" 237 mM_nameOf ∨ lkSN "WhoseDelayModel" 237 mM_nameOf := Or.inl ⟨gw_t6 8 (by decide +kernel) (by decide +kernel), gw_t6 9 (by decide +kernel) (by decide +kernel)⟩
theorem lS_M_252 : lkS "WhoseDelayModel" 252 mM_done ∨ lkSN "WhoseDelayModel" 252 mM_done := Or.inl ⟨gw_t6 43 (by decide +kernel) (by decide +kernel), gw_t6 44 (by decide +kernel) (by decide +kernel)⟩
theorem lS_M_258 : lkS "WhoseDelayModel" 258 mJ_min ∨ lkSN "WhoseDelayModel" 258 mJ_min := Or.inl ⟨gw_t6 46 (by decide +kernel) (by decide +kernel), gw_t3 238 (by decide +kernel) (by decide +kernel)⟩
theorem lS_M_283 : lkS "WhoseDelayModel" 283 mM_isSheet ∨ lkSN "WhoseDelayModel" 283 mM_isSheet := Or.inl ⟨gw_t6 89 (by decide +kernel) (by decide +kernel), gw_t6 90 (by decide +kernel) (by decide +kernel)⟩
theorem lS_M_295 : lkS "WhoseDelayModel" 295 mM_hasOwn ∨ lkSN "WhoseDelayModel" 295 mM_hasOwn := Or.inl ⟨gw_t6 104 (by decide +kernel) (by decide +kernel), gw_t6 105 (by decide +kernel) (by decide +kernel)⟩
theorem lS_M_307 : lkS "WhoseDelayModel" 307 mM_isWidth ∨ lkSN "WhoseDelayModel" 307 mM_isWidth := Or.inl ⟨gw_t6 123 (by decide +kernel) (by decide +kernel), gw_t6 124 (by decide +kernel) (by decide +kernel)⟩
theorem lV_D_70 : lkV "WhoseDelay" 70 mD_finding := ⟨gw_t2 134 (by decide +kernel) (by decide +kernel), gw_t2 136 (by decide +kernel) (by decide +kernel), gw_p1 (n := 10) 2 (by decide +kernel)⟩
theorem lV_D_84 : lkV "WhoseDelay" 84 mW_add := ⟨gw_t2 140 (by decide +kernel) (by decide +kernel), gw_t2 141 (by decide +kernel) (by decide +kernel), gw_t2 142 (by decide +kernel) (by decide +kernel)⟩
theorem lV_D_88 : lkV "WhoseDelay" 88 mW_has := ⟨gw_t2 148 (by decide +kernel) (by decide +kernel), gw_t2 149 (by decide +kernel) (by decide +kernel), gw_t2 150 (by decide +kernel) (by decide +kernel)⟩
theorem lV_D_106 : lkV "WhoseDelay" 106 mH_mostOf := ⟨gw_t2 162 (by decide +kernel) (by decide +kernel), gw_t2 163 (by decide +kernel) (by decide +kernel), gw_t2 164 (by decide +kernel) (by decide +kernel)⟩
theorem lV_D_112 : lkV "WhoseDelay" 112 mW_linked := ⟨gw_t2 171 (by decide +kernel) (by decide +kernel), gw_t2 172 (by decide +kernel) (by decide +kernel), gw_t2 173 (by decide +kernel) (by decide +kernel)⟩
theorem lV_D_115 : lkV "WhoseDelay" 115 mW_leadsTo := ⟨gw_t2 176 (by decide +kernel) (by decide +kernel), gw_t2 177 (by decide +kernel) (by decide +kernel), gw_t2 178 (by decide +kernel) (by decide +kernel)⟩
theorem lV_D_121 : lkV "WhoseDelay" 121 mW_join := ⟨gw_t2 180 (by decide +kernel) (by decide +kernel), gw_t2 181 (by decide +kernel) (by decide +kernel), gw_t2 182 (by decide +kernel) (by decide +kernel)⟩
theorem lV_D_126 : lkV "WhoseDelay" 126 mW_loosen := ⟨gw_t2 197 (by decide +kernel) (by decide +kernel), gw_t2 198 (by decide +kernel) (by decide +kernel), gw_t2 199 (by decide +kernel) (by decide +kernel)⟩
theorem lV_D_133 : lkV "WhoseDelay" 133 mY_turnWeek := ⟨gw_t2 205 (by decide +kernel) (by decide +kernel), gw_t2 206 (by decide +kernel) (by decide +kernel), gw_t2 207 (by decide +kernel) (by decide +kernel)⟩
theorem lV_D_138 : lkV "WhoseDelay" 138 mY_turnRain := ⟨gw_t2 216 (by decide +kernel) (by decide +kernel), gw_t2 217 (by decide +kernel) (by decide +kernel), gw_t2 218 (by decide +kernel) (by decide +kernel)⟩
theorem lV_D_155 : lkV "WhoseDelay" 155 mE_add := ⟨gw_t2 231 (by decide +kernel) (by decide +kernel), gw_t2 232 (by decide +kernel) (by decide +kernel), gw_t2 233 (by decide +kernel) (by decide +kernel)⟩
theorem lV_D_158 : lkV "WhoseDelay" 158 mE_has := ⟨gw_t2 239 (by decide +kernel) (by decide +kernel), gw_t3 0 (by decide +kernel) (by decide +kernel), gw_t3 1 (by decide +kernel) (by decide +kernel)⟩
theorem lV_D_183 : lkV "WhoseDelay" 183 mE_knownOn := ⟨gw_t3 18 (by decide +kernel) (by decide +kernel), gw_t3 19 (by decide +kernel) (by decide +kernel), gw_t3 20 (by decide +kernel) (by decide +kernel)⟩
theorem lV_D_186 : lkV "WhoseDelay" 186 mE_hold := ⟨gw_t3 26 (by decide +kernel) (by decide +kernel), gw_t3 27 (by decide +kernel) (by decide +kernel), gw_t3 28 (by decide +kernel) (by decide +kernel)⟩
theorem lV_D_189 : lkV "WhoseDelay" 189 mD_floatOf := ⟨gw_t3 30 (by decide +kernel) (by decide +kernel), gw_t3 32 (by decide +kernel) (by decide +kernel), gw_p1 (n := 10) 5 (by decide +kernel)⟩
theorem lV_D_192 : lkV "WhoseDelay" 192 mD_endOf := ⟨gw_t3 64 (by decide +kernel) (by decide +kernel), gw_t3 66 (by decide +kernel) (by decide +kernel), gw_p1 (n := 10) 8 (by decide +kernel)⟩
theorem lV_D_201 : lkV "WhoseDelay" 201 mP_lastWork := ⟨gw_t3 76 (by decide +kernel) (by decide +kernel), gw_t3 77 (by decide +kernel) (by decide +kernel), gw_t3 78 (by decide +kernel) (by decide +kernel)⟩
theorem lV_D_205 : lkV "WhoseDelay" 205 mP_rulerOf := ⟨gw_t3 80 (by decide +kernel) (by decide +kernel), gw_t3 81 (by decide +kernel) (by decide +kernel), gw_t3 82 (by decide +kernel) (by decide +kernel)⟩
theorem lV_D_212 : lkV "WhoseDelay" 212 mD_addedBy := ⟨gw_t3 90 (by decide +kernel) (by decide +kernel), gw_t3 92 (by decide +kernel) (by decide +kernel), gw_p1 (n := 10) 9 (by decide +kernel)⟩
theorem lV_D_215 : lkV "WhoseDelay" 215 mD_lostBy := ⟨gw_t3 99 (by decide +kernel) (by decide +kernel), gw_t3 101 (by decide +kernel) (by decide +kernel), gw_p1 (n := 10) 10 (by decide +kernel)⟩
theorem lV_D_218 : lkV "WhoseDelay" 218 mE_ofCause := ⟨gw_t3 111 (by decide +kernel) (by decide +kernel), gw_t3 112 (by decide +kernel) (by decide +kernel), gw_t3 113 (by decide +kernel) (by decide +kernel)⟩
theorem lV_D_221 : lkV "WhoseDelay" 221 mE_upTo := ⟨gw_t3 119 (by decide +kernel) (by decide +kernel), gw_t3 120 (by decide +kernel) (by decide +kernel), gw_t3 121 (by decide +kernel) (by decide +kernel)⟩
theorem lV_D_224 : lkV "WhoseDelay" 224 mD_partOf := ⟨gw_t3 123 (by decide +kernel) (by decide +kernel), gw_t3 125 (by decide +kernel) (by decide +kernel), gw_p1 (n := 10) 11 (by decide +kernel)⟩
theorem lV_D_236 : lkV "WhoseDelay" 236 mC_take := ⟨gw_t3 135 (by decide +kernel) (by decide +kernel), gw_t3 136 (by decide +kernel) (by decide +kernel), gw_t3 137 (by decide +kernel) (by decide +kernel)⟩
theorem lV_D_248 : lkV "WhoseDelay" 248 mR_read := ⟨gw_t3 146 (by decide +kernel) (by decide +kernel), gw_t3 147 (by decide +kernel) (by decide +kernel), gw_t3 148 (by decide +kernel) (by decide +kernel)⟩
theorem lV_D_252 : lkV "WhoseDelay" 252 mR_fault := ⟨gw_t3 196 (by decide +kernel) (by decide +kernel), gw_t3 197 (by decide +kernel) (by decide +kernel), gw_t3 198 (by decide +kernel) (by decide +kernel)⟩
theorem lV_D_256 : lkV "WhoseDelay" 256 mC_add := ⟨gw_t3 200 (by decide +kernel) (by decide +kernel), gw_t3 201 (by decide +kernel) (by decide +kernel), gw_t3 202 (by decide +kernel) (by decide +kernel)⟩
theorem lV_D_257 : lkV "WhoseDelay" 257 mD_riskOf := ⟨gw_t3 209 (by decide +kernel) (by decide +kernel), gw_t3 211 (by decide +kernel) (by decide +kernel), gw_p2 (n := 10) 6 (by decide +kernel)⟩
theorem lV_D_260 : lkV "WhoseDelay" 260 mD_priceOf := ⟨gw_t4 1 (by decide +kernel) (by decide +kernel), gw_t4 3 (by decide +kernel) (by decide +kernel), gw_p2 (n := 10) 9 (by decide +kernel)⟩
theorem lV_D_263 : lkV "WhoseDelay" 263 mC_inForce := ⟨gw_t3 213 (by decide +kernel) (by decide +kernel), gw_t3 214 (by decide +kernel) (by decide +kernel), gw_t3 215 (by decide +kernel) (by decide +kernel)⟩
theorem lV_D_266 : lkV "WhoseDelay" 266 mD_bearing := ⟨gw_t4 13 (by decide +kernel) (by decide +kernel), gw_t4 15 (by decide +kernel) (by decide +kernel), gw_p2 (n := 10) 10 (by decide +kernel)⟩
theorem lV_D_269 : lkV "WhoseDelay" 269 mD_paidFor := ⟨gw_t4 17 (by decide +kernel) (by decide +kernel), gw_t4 19 (by decide +kernel) (by decide +kernel), gw_p2 (n := 10) 11 (by decide +kernel)⟩
theorem lV_D_272 : lkV "WhoseDelay" 272 mD_knownToday := ⟨gw_t3 225 (by decide +kernel) (by decide +kernel), gw_t3 227 (by decide +kernel) (by decide +kernel), gw_p2 (n := 10) 8 (by decide +kernel)⟩
theorem lV_D_275 : lkV "WhoseDelay" 275 mD_twoAtOnce := ⟨gw_t4 21 (by decide +kernel) (by decide +kernel), gw_t4 23 (by decide +kernel) (by decide +kernel), gw_p2 (n := 10) 12 (by decide +kernel)⟩
theorem lV_D_279 : lkV "WhoseDelay" 279 mH_add := ⟨gw_t4 29 (by decide +kernel) (by decide +kernel), gw_t4 30 (by decide +kernel) (by decide +kernel), gw_t4 31 (by decide +kernel) (by decide +kernel)⟩
theorem lV_D_281 : lkV "WhoseDelay" 281 mD_cheapest := ⟨gw_t4 41 (by decide +kernel) (by decide +kernel), gw_t4 43 (by decide +kernel) (by decide +kernel), gw_p2 (n := 10) 13 (by decide +kernel)⟩
theorem lV_D_290 : lkV "WhoseDelay" 290 mH_firstWrong := ⟨gw_t4 65 (by decide +kernel) (by decide +kernel), gw_t4 66 (by decide +kernel) (by decide +kernel), gw_t4 67 (by decide +kernel) (by decide +kernel)⟩
theorem lV_D_297 : lkV "WhoseDelay" 297 mD_endHurried := ⟨gw_t4 49 (by decide +kernel) (by decide +kernel), gw_t4 51 (by decide +kernel) (by decide +kernel), gw_p2 (n := 10) 14 (by decide +kernel)⟩
theorem lV_D_301 : lkV "WhoseDelay" 301 mH_sumOf := ⟨gw_t4 45 (by decide +kernel) (by decide +kernel), gw_t4 46 (by decide +kernel) (by decide +kernel), gw_t4 47 (by decide +kernel) (by decide +kernel)⟩
theorem lV_D_308 : lkV "WhoseDelay" 308 mV_begin := ⟨gw_t4 74 (by decide +kernel) (by decide +kernel), gw_t4 75 (by decide +kernel) (by decide +kernel), gw_t4 76 (by decide +kernel) (by decide +kernel)⟩
theorem lV_D_316 : lkV "WhoseDelay" 316 mS_renew := ⟨gw_t4 98 (by decide +kernel) (by decide +kernel), gw_t4 99 (by decide +kernel) (by decide +kernel), gw_t4 100 (by decide +kernel) (by decide +kernel)⟩
theorem lV_D_323 : lkV "WhoseDelay" 323 mS_cut := ⟨gw_t4 106 (by decide +kernel) (by decide +kernel), gw_t4 107 (by decide +kernel) (by decide +kernel), gw_t4 108 (by decide +kernel) (by decide +kernel)⟩
theorem lV_D_332 : lkV "WhoseDelay" 332 mT_copy := ⟨gw_t4 118 (by decide +kernel) (by decide +kernel), gw_t4 119 (by decide +kernel) (by decide +kernel), gw_t4 120 (by decide +kernel) (by decide +kernel)⟩
theorem lV_D_348 : lkV "WhoseDelay" 348 mP_load := ⟨gw_t3 34 (by decide +kernel) (by decide +kernel), gw_t3 35 (by decide +kernel) (by decide +kernel), gw_t3 36 (by decide +kernel) (by decide +kernel)⟩
theorem lV_D_352 : lkV "WhoseDelay" 352 mP_run := ⟨gw_t3 42 (by decide +kernel) (by decide +kernel), gw_t3 43 (by decide +kernel) (by decide +kernel), gw_t3 44 (by decide +kernel) (by decide +kernel)⟩
theorem lV_D_359 : lkV "WhoseDelay" 359 mE_aheadOf := ⟨gw_t3 94 (by decide +kernel) (by decide +kernel), gw_t3 95 (by decide +kernel) (by decide +kernel), gw_t3 96 (by decide +kernel) (by decide +kernel)⟩
theorem lV_D_362 : lkV "WhoseDelay" 362 mE_daysTogether := ⟨gw_t3 127 (by decide +kernel) (by decide +kernel), gw_t3 128 (by decide +kernel) (by decide +kernel), gw_t3 129 (by decide +kernel) (by decide +kernel)⟩
theorem lV_D_365 : lkV "WhoseDelay" 365 mD_valueOf := ⟨gw_t3 217 (by decide +kernel) (by decide +kernel), gw_t3 219 (by decide +kernel) (by decide +kernel), gw_p2 (n := 10) 7 (by decide +kernel)⟩
theorem lV_D_379 : lkV "WhoseDelay" 379 mE_noticeAfter := ⟨gw_t3 221 (by decide +kernel) (by decide +kernel), gw_t3 222 (by decide +kernel) (by decide +kernel), gw_t3 223 (by decide +kernel) (by decide +kernel)⟩
theorem lV_D_382 : lkV "WhoseDelay" 382 mE_meetsOther := ⟨gw_t3 229 (by decide +kernel) (by decide +kernel), gw_t3 230 (by decide +kernel) (by decide +kernel), gw_t3 231 (by decide +kernel) (by decide +kernel)⟩
theorem lV_D_385 : lkV "WhoseDelay" 385 mC_mentions := ⟨gw_t3 233 (by decide +kernel) (by decide +kernel), gw_t3 234 (by decide +kernel) (by decide +kernel), gw_t3 235 (by decide +kernel) (by decide +kernel)⟩
theorem lV_D_395 : lkV "WhoseDelay" 395 mH_next := ⟨gw_t4 54 (by decide +kernel) (by decide +kernel), gw_t4 55 (by decide +kernel) (by decide +kernel), gw_t4 56 (by decide +kernel) (by decide +kernel)⟩
theorem lV_Y_35 : lkV "WhoseDelay$Days" 35 mY_countDry := ⟨gw_t1 42 (by decide +kernel) (by decide +kernel), gw_t1 44 (by decide +kernel) (by decide +kernel), gw_p1 (n := 5) 0 (by decide +kernel)⟩
theorem lV_Y_51 : lkV "WhoseDelay$Days" 51 mY_isWet := ⟨gw_t1 49 (by decide +kernel) (by decide +kernel), gw_t1 51 (by decide +kernel) (by decide +kernel), gw_p1 (n := 5) 1 (by decide +kernel)⟩
theorem lV_Y_55 : lkV "WhoseDelay$Days" 55 mY_byWeek := ⟨gw_t3 55 (by decide +kernel) (by decide +kernel), gw_t3 57 (by decide +kernel) (by decide +kernel), gw_p1 (n := 5) 6 (by decide +kernel)⟩
theorem lV_Y_58 : lkV "WhoseDelay$Days" 58 mY_firstWith := ⟨gw_t3 59 (by decide +kernel) (by decide +kernel), gw_t3 61 (by decide +kernel) (by decide +kernel), gw_p1 (n := 5) 7 (by decide +kernel)⟩
theorem lV_P_62 : lkV "WhoseDelay$Plan" 62 mW_readyBy := ⟨gw_t3 46 (by decide +kernel) (by decide +kernel), gw_t3 47 (by decide +kernel) (by decide +kernel), gw_t3 48 (by decide +kernel) (by decide +kernel)⟩
theorem lV_P_73 : lkV "WhoseDelay$Plan" 73 mY_endOf := ⟨gw_t3 51 (by decide +kernel) (by decide +kernel), gw_t3 52 (by decide +kernel) (by decide +kernel), gw_t3 53 (by decide +kernel) (by decide +kernel)⟩
theorem lV_P_88 : lkV "WhoseDelay$Plan" 88 mW_linked := ⟨gw_t3 84 (by decide +kernel) (by decide +kernel), gw_t2 172 (by decide +kernel) (by decide +kernel), gw_t2 173 (by decide +kernel) (by decide +kernel)⟩
theorem lV_R_36 : lkV "WhoseDelay$Reader" 36 mR_either := ⟨gw_t3 150 (by decide +kernel) (by decide +kernel), gw_t3 152 (by decide +kernel) (by decide +kernel), gw_p1 (n := 7) 12 (by decide +kernel)⟩
theorem lV_R_40 : lkV "WhoseDelay$Reader" 40 mR_next := ⟨gw_t3 174 (by decide +kernel) (by decide +kernel), gw_t3 176 (by decide +kernel) (by decide +kernel), gw_p2 (n := 7) 2 (by decide +kernel)⟩
theorem lV_R_43 : lkV "WhoseDelay$Reader" 43 mR_both := ⟨gw_t3 154 (by decide +kernel) (by decide +kernel), gw_t3 156 (by decide +kernel) (by decide +kernel), gw_p1 (n := 7) 13 (by decide +kernel)⟩
theorem lV_R_46 : lkV "WhoseDelay$Reader" 46 mR_skip := ⟨gw_t3 189 (by decide +kernel) (by decide +kernel), gw_t3 191 (by decide +kernel) (by decide +kernel), gw_p2 (n := 7) 5 (by decide +kernel)⟩
theorem lV_R_54 : lkV "WhoseDelay$Reader" 54 mR_compared := ⟨gw_t3 158 (by decide +kernel) (by decide +kernel), gw_t3 160 (by decide +kernel) (by decide +kernel), gw_p1 (n := 7) 14 (by decide +kernel)⟩
theorem lV_R_57 : lkV "WhoseDelay$Reader" 57 mR_sum := ⟨gw_t3 162 (by decide +kernel) (by decide +kernel), gw_t3 164 (by decide +kernel) (by decide +kernel), gw_p1 (n := 7) 15 (by decide +kernel)⟩
theorem lV_R_60 : lkV "WhoseDelay$Reader" 60 mR_product := ⟨gw_t3 166 (by decide +kernel) (by decide +kernel), gw_t3 168 (by decide +kernel) (by decide +kernel), gw_p2 (n := 7) 0 (by decide +kernel)⟩
theorem lV_R_63 : lkV "WhoseDelay$Reader" 63 mR_single := ⟨gw_t3 170 (by decide +kernel) (by decide +kernel), gw_t3 172 (by decide +kernel) (by decide +kernel), gw_p2 (n := 7) 1 (by decide +kernel)⟩
theorem lV_R_66 : lkV "WhoseDelay$Reader" 66 mR_number := ⟨gw_t3 178 (by decide +kernel) (by decide +kernel), gw_t3 180 (by decide +kernel) (by decide +kernel), gw_p2 (n := 7) 3 (by decide +kernel)⟩
theorem lV_R_69 : lkV "WhoseDelay$Reader" 69 mR_opened := ⟨gw_t3 182 (by decide +kernel) (by decide +kernel), gw_t3 184 (by decide +kernel) (by decide +kernel), gw_p2 (n := 7) 4 (by decide +kernel)⟩
theorem lV_T_48 : lkV "WhoseDelay$Site" 48 mY_copy := ⟨gw_t4 122 (by decide +kernel) (by decide +kernel), gw_t4 123 (by decide +kernel) (by decide +kernel), gw_t4 124 (by decide +kernel) (by decide +kernel)⟩
theorem lV_T_52 : lkV "WhoseDelay$Site" 52 mW_copy := ⟨gw_t4 127 (by decide +kernel) (by decide +kernel), gw_t4 128 (by decide +kernel) (by decide +kernel), gw_t4 129 (by decide +kernel) (by decide +kernel)⟩
theorem lV_T_55 : lkV "WhoseDelay$Site" 55 mE_copy := ⟨gw_t4 132 (by decide +kernel) (by decide +kernel), gw_t4 133 (by decide +kernel) (by decide +kernel), gw_t4 134 (by decide +kernel) (by decide +kernel)⟩
theorem lV_T_58 : lkV "WhoseDelay$Site" 58 mC_copy := ⟨gw_t4 137 (by decide +kernel) (by decide +kernel), gw_t4 138 (by decide +kernel) (by decide +kernel), gw_t4 139 (by decide +kernel) (by decide +kernel)⟩
theorem lV_T_61 : lkV "WhoseDelay$Site" 61 mH_copy := ⟨gw_t4 141 (by decide +kernel) (by decide +kernel), gw_t4 142 (by decide +kernel) (by decide +kernel), gw_t4 143 (by decide +kernel) (by decide +kernel)⟩
theorem lV_V_28 : lkV "WhoseDelay$Voices" 28 mV_call := ⟨gw_t4 78 (by decide +kernel) (by decide +kernel), gw_t4 80 (by decide +kernel) (by decide +kernel), gw_p2 (n := 5) 15 (by decide +kernel)⟩
theorem lV_V_39 : lkV "WhoseDelay$Voices" 39 mV_speak := ⟨gw_t4 85 (by decide +kernel) (by decide +kernel), gw_t4 87 (by decide +kernel) (by decide +kernel), gw_p3 (n := 5) 0 (by decide +kernel)⟩
theorem lV_W_47 : lkV "WhoseDelay$Works" 47 mW_arrange := ⟨gw_t2 184 (by decide +kernel) (by decide +kernel), gw_t2 186 (by decide +kernel) (by decide +kernel), gw_p1 (n := 8) 3 (by decide +kernel)⟩
theorem lV_W_56 : lkV "WhoseDelay$Works" 56 mW_nextAfter := ⟨gw_t2 188 (by decide +kernel) (by decide +kernel), gw_t2 190 (by decide +kernel) (by decide +kernel), gw_p1 (n := 8) 4 (by decide +kernel)⟩
theorem lV_L_13 : lkV "WhoseDelayLaw" 13 mD_work := ⟨gw_t2 123 (by decide +kernel) (by decide +kernel), gw_t2 124 (by decide +kernel) (by decide +kernel), gw_t2 125 (by decide +kernel) (by decide +kernel)⟩
theorem lV_L_17 : lkV "WhoseDelayLaw" 17 mM_work := ⟨gw_t5 8 (by decide +kernel) (by decide +kernel), gw_t5 9 (by decide +kernel) (by decide +kernel), gw_t5 10 (by decide +kernel) (by decide +kernel)⟩
theorem lV_L_18 : lkV "WhoseDelayLaw" 18 mD_as := ⟨gw_t2 144 (by decide +kernel) (by decide +kernel), gw_t2 145 (by decide +kernel) (by decide +kernel), gw_t2 146 (by decide +kernel) (by decide +kernel)⟩
theorem lV_L_21 : lkV "WhoseDelayLaw" 21 mM_as := ⟨gw_t5 24 (by decide +kernel) (by decide +kernel), gw_t5 25 (by decide +kernel) (by decide +kernel), gw_t5 26 (by decide +kernel) (by decide +kernel)⟩
theorem lV_L_22 : lkV "WhoseDelayLaw" 22 mD_edit := ⟨gw_t2 158 (by decide +kernel) (by decide +kernel), gw_t2 159 (by decide +kernel) (by decide +kernel), gw_t2 160 (by decide +kernel) (by decide +kernel)⟩
theorem lV_L_25 : lkV "WhoseDelayLaw" 25 mM_edit := ⟨gw_t5 44 (by decide +kernel) (by decide +kernel), gw_t5 45 (by decide +kernel) (by decide +kernel), gw_t5 46 (by decide +kernel) (by decide +kernel)⟩
theorem lV_L_26 : lkV "WhoseDelayLaw" 26 mD_link := ⟨gw_t2 167 (by decide +kernel) (by decide +kernel), gw_t2 168 (by decide +kernel) (by decide +kernel), gw_t2 169 (by decide +kernel) (by decide +kernel)⟩
theorem lV_L_30 : lkV "WhoseDelayLaw" 30 mM_link := ⟨gw_t5 53 (by decide +kernel) (by decide +kernel), gw_t5 54 (by decide +kernel) (by decide +kernel), gw_t5 55 (by decide +kernel) (by decide +kernel)⟩
theorem lV_L_31 : lkV "WhoseDelayLaw" 31 mD_unlink := ⟨gw_t2 192 (by decide +kernel) (by decide +kernel), gw_t2 193 (by decide +kernel) (by decide +kernel), gw_t2 194 (by decide +kernel) (by decide +kernel)⟩
theorem lV_L_34 : lkV "WhoseDelayLaw" 34 mM_unlink := ⟨gw_t5 69 (by decide +kernel) (by decide +kernel), gw_t5 70 (by decide +kernel) (by decide +kernel), gw_t5 71 (by decide +kernel) (by decide +kernel)⟩
theorem lV_L_35 : lkV "WhoseDelayLaw" 35 mD_week := ⟨gw_t2 201 (by decide +kernel) (by decide +kernel), gw_t2 202 (by decide +kernel) (by decide +kernel), gw_t2 203 (by decide +kernel) (by decide +kernel)⟩
theorem lV_L_39 : lkV "WhoseDelayLaw" 39 mM_week := ⟨gw_t5 74 (by decide +kernel) (by decide +kernel), gw_t5 75 (by decide +kernel) (by decide +kernel), gw_t5 76 (by decide +kernel) (by decide +kernel)⟩
theorem lV_L_40 : lkV "WhoseDelayLaw" 40 mD_rain := ⟨gw_t2 212 (by decide +kernel) (by decide +kernel), gw_t2 213 (by decide +kernel) (by decide +kernel), gw_t2 214 (by decide +kernel) (by decide +kernel)⟩
theorem lV_L_44 : lkV "WhoseDelayLaw" 44 mM_rain := ⟨gw_t5 79 (by decide +kernel) (by decide +kernel), gw_t5 80 (by decide +kernel) (by decide +kernel), gw_t5 81 (by decide +kernel) (by decide +kernel)⟩
theorem lV_L_45 : lkV "WhoseDelayLaw" 45 mD_today := ⟨gw_t2 220 (by decide +kernel) (by decide +kernel), gw_t2 221 (by decide +kernel) (by decide +kernel), gw_t2 222 (by decide +kernel) (by decide +kernel)⟩
theorem lV_L_48 : lkV "WhoseDelayLaw" 48 mM_today := ⟨gw_t5 85 (by decide +kernel) (by decide +kernel), gw_t5 86 (by decide +kernel) (by decide +kernel), gw_t5 87 (by decide +kernel) (by decide +kernel)⟩
theorem lV_L_49 : lkV "WhoseDelayLaw" 49 mD_event := ⟨gw_t2 224 (by decide +kernel) (by decide +kernel), gw_t2 225 (by decide +kernel) (by decide +kernel), gw_t2 226 (by decide +kernel) (by decide +kernel)⟩
theorem lV_L_52 : lkV "WhoseDelayLaw" 52 mM_event3 := ⟨gw_t5 89 (by decide +kernel) (by decide +kernel), gw_t5 90 (by decide +kernel) (by decide +kernel), gw_t5 91 (by decide +kernel) (by decide +kernel)⟩
theorem lV_L_53 : lkV "WhoseDelayLaw" 53 mD_notice := ⟨gw_t2 235 (by decide +kernel) (by decide +kernel), gw_t2 236 (by decide +kernel) (by decide +kernel), gw_t2 237 (by decide +kernel) (by decide +kernel)⟩
theorem lV_L_56 : lkV "WhoseDelayLaw" 56 mM_notice := ⟨gw_t5 94 (by decide +kernel) (by decide +kernel), gw_t5 95 (by decide +kernel) (by decide +kernel), gw_t5 96 (by decide +kernel) (by decide +kernel)⟩
theorem lV_L_57 : lkV "WhoseDelayLaw" 57 mD_back := ⟨gw_t3 3 (by decide +kernel) (by decide +kernel), gw_t3 4 (by decide +kernel) (by decide +kernel), gw_t3 5 (by decide +kernel) (by decide +kernel)⟩
theorem lV_L_60 : lkV "WhoseDelayLaw" 60 mM_back := ⟨gw_t5 102 (by decide +kernel) (by decide +kernel), gw_t5 103 (by decide +kernel) (by decide +kernel), gw_t5 104 (by decide +kernel) (by decide +kernel)⟩
theorem lV_L_61 : lkV "WhoseDelayLaw" 61 mD_of := ⟨gw_t3 7 (by decide +kernel) (by decide +kernel), gw_t3 8 (by decide +kernel) (by decide +kernel), gw_t3 9 (by decide +kernel) (by decide +kernel)⟩
theorem lV_L_64 : lkV "WhoseDelayLaw" 64 mM_of := ⟨gw_t5 106 (by decide +kernel) (by decide +kernel), gw_t5 107 (by decide +kernel) (by decide +kernel), gw_t5 108 (by decide +kernel) (by decide +kernel)⟩
theorem lV_L_65 : lkV "WhoseDelayLaw" 65 mD_known := ⟨gw_t3 11 (by decide +kernel) (by decide +kernel), gw_t3 12 (by decide +kernel) (by decide +kernel), gw_t3 13 (by decide +kernel) (by decide +kernel)⟩
theorem lV_L_68 : lkV "WhoseDelayLaw" 68 mM_known := ⟨gw_t5 111 (by decide +kernel) (by decide +kernel), gw_t5 112 (by decide +kernel) (by decide +kernel), gw_t5 113 (by decide +kernel) (by decide +kernel)⟩
theorem lV_L_69 : lkV "WhoseDelayLaw" 69 mD_plan := ⟨gw_t3 22 (by decide +kernel) (by decide +kernel), gw_t3 23 (by decide +kernel) (by decide +kernel), gw_t3 24 (by decide +kernel) (by decide +kernel)⟩
theorem lV_L_72 : lkV "WhoseDelayLaw" 72 mM_plan := ⟨gw_t5 122 (by decide +kernel) (by decide +kernel), gw_t5 123 (by decide +kernel) (by decide +kernel), gw_t5 124 (by decide +kernel) (by decide +kernel)⟩
theorem lV_L_73 : lkV "WhoseDelayLaw" 73 mD_end := ⟨gw_t3 68 (by decide +kernel) (by decide +kernel), gw_t3 69 (by decide +kernel) (by decide +kernel), gw_t3 70 (by decide +kernel) (by decide +kernel)⟩
theorem lV_L_76 : lkV "WhoseDelayLaw" 76 mM_end := ⟨gw_t5 160 (by decide +kernel) (by decide +kernel), gw_t5 161 (by decide +kernel) (by decide +kernel), gw_t5 162 (by decide +kernel) (by decide +kernel)⟩
theorem lV_L_77 : lkV "WhoseDelayLaw" 77 mD_chain := ⟨gw_t3 72 (by decide +kernel) (by decide +kernel), gw_t3 73 (by decide +kernel) (by decide +kernel), gw_t3 74 (by decide +kernel) (by decide +kernel)⟩
theorem lV_L_80 : lkV "WhoseDelayLaw" 80 mM_chain := ⟨gw_t5 164 (by decide +kernel) (by decide +kernel), gw_t5 165 (by decide +kernel) (by decide +kernel), gw_t5 166 (by decide +kernel) (by decide +kernel)⟩
theorem lV_L_81 : lkV "WhoseDelayLaw" 81 mD_one := ⟨gw_t3 85 (by decide +kernel) (by decide +kernel), gw_t3 86 (by decide +kernel) (by decide +kernel), gw_t3 87 (by decide +kernel) (by decide +kernel)⟩
theorem lV_L_84 : lkV "WhoseDelayLaw" 84 mM_one := ⟨gw_t5 168 (by decide +kernel) (by decide +kernel), gw_t5 169 (by decide +kernel) (by decide +kernel), gw_t5 170 (by decide +kernel) (by decide +kernel)⟩
theorem lV_L_85 : lkV "WhoseDelayLaw" 85 mD_without := ⟨gw_t3 103 (by decide +kernel) (by decide +kernel), gw_t3 104 (by decide +kernel) (by decide +kernel), gw_t3 105 (by decide +kernel) (by decide +kernel)⟩
theorem lV_L_88 : lkV "WhoseDelayLaw" 88 mM_without := ⟨gw_t5 180 (by decide +kernel) (by decide +kernel), gw_t5 181 (by decide +kernel) (by decide +kernel), gw_t5 182 (by decide +kernel) (by decide +kernel)⟩
theorem lV_L_89 : lkV "WhoseDelayLaw" 89 mD_butFor := ⟨gw_t3 107 (by decide +kernel) (by decide +kernel), gw_t3 108 (by decide +kernel) (by decide +kernel), gw_t3 109 (by decide +kernel) (by decide +kernel)⟩
theorem lV_L_92 : lkV "WhoseDelayLaw" 92 mM_butFor := ⟨gw_t5 184 (by decide +kernel) (by decide +kernel), gw_t5 185 (by decide +kernel) (by decide +kernel), gw_t5 186 (by decide +kernel) (by decide +kernel)⟩
theorem lV_L_93 : lkV "WhoseDelayLaw" 93 mD_window := ⟨gw_t3 115 (by decide +kernel) (by decide +kernel), gw_t3 116 (by decide +kernel) (by decide +kernel), gw_t3 117 (by decide +kernel) (by decide +kernel)⟩
theorem lV_L_97 : lkV "WhoseDelayLaw" 97 mM_window := ⟨gw_t5 189 (by decide +kernel) (by decide +kernel), gw_t5 190 (by decide +kernel) (by decide +kernel), gw_t5 191 (by decide +kernel) (by decide +kernel)⟩
theorem lV_L_100 : lkV "WhoseDelayLaw" 100 mD_feed := ⟨gw_t3 131 (by decide +kernel) (by decide +kernel), gw_t3 132 (by decide +kernel) (by decide +kernel), gw_t3 133 (by decide +kernel) (by decide +kernel)⟩
theorem lV_L_104 : lkV "WhoseDelayLaw" 104 mM_feed := ⟨gw_t5 200 (by decide +kernel) (by decide +kernel), gw_t5 201 (by decide +kernel) (by decide +kernel), gw_t5 202 (by decide +kernel) (by decide +kernel)⟩
theorem lV_L_105 : lkV "WhoseDelayLaw" 105 mD_clause := ⟨gw_t3 139 (by decide +kernel) (by decide +kernel), gw_t3 140 (by decide +kernel) (by decide +kernel), gw_t3 141 (by decide +kernel) (by decide +kernel)⟩
theorem lV_L_108 : lkV "WhoseDelayLaw" 108 mM_clause := ⟨gw_t5 206 (by decide +kernel) (by decide +kernel), gw_t5 207 (by decide +kernel) (by decide +kernel), gw_t5 208 (by decide +kernel) (by decide +kernel)⟩
theorem lV_L_109 : lkV "WhoseDelayLaw" 109 mD_says := ⟨gw_t3 205 (by decide +kernel) (by decide +kernel), gw_t3 206 (by decide +kernel) (by decide +kernel), gw_t3 207 (by decide +kernel) (by decide +kernel)⟩
theorem lV_L_112 : lkV "WhoseDelayLaw" 112 mM_says := ⟨gw_t6 19 (by decide +kernel) (by decide +kernel), gw_t6 20 (by decide +kernel) (by decide +kernel), gw_t6 21 (by decide +kernel) (by decide +kernel)⟩
theorem lV_L_113 : lkV "WhoseDelayLaw" 113 mD_force := ⟨gw_t4 5 (by decide +kernel) (by decide +kernel), gw_t4 6 (by decide +kernel) (by decide +kernel), gw_t4 7 (by decide +kernel) (by decide +kernel)⟩
theorem lV_L_116 : lkV "WhoseDelayLaw" 116 mM_force := ⟨gw_t6 11 (by decide +kernel) (by decide +kernel), gw_t6 12 (by decide +kernel) (by decide +kernel), gw_t6 13 (by decide +kernel) (by decide +kernel)⟩
theorem lV_L_117 : lkV "WhoseDelayLaw" 117 mD_claim := ⟨gw_t4 9 (by decide +kernel) (by decide +kernel), gw_t4 10 (by decide +kernel) (by decide +kernel), gw_t4 11 (by decide +kernel) (by decide +kernel)⟩
theorem lV_L_120 : lkV "WhoseDelayLaw" 120 mM_claim := ⟨gw_t6 47 (by decide +kernel) (by decide +kernel), gw_t6 48 (by decide +kernel) (by decide +kernel), gw_t6 49 (by decide +kernel) (by decide +kernel)⟩
theorem lV_L_121 : lkV "WhoseDelayLaw" 121 mD_hurry := ⟨gw_t4 25 (by decide +kernel) (by decide +kernel), gw_t4 26 (by decide +kernel) (by decide +kernel), gw_t4 27 (by decide +kernel) (by decide +kernel)⟩
theorem lV_L_124 : lkV "WhoseDelayLaw" 124 mM_hurry := ⟨gw_t6 59 (by decide +kernel) (by decide +kernel), gw_t6 60 (by decide +kernel) (by decide +kernel), gw_t6 61 (by decide +kernel) (by decide +kernel)⟩
theorem lV_L_125 : lkV "WhoseDelayLaw" 125 mD_calm := ⟨gw_t4 33 (by decide +kernel) (by decide +kernel), gw_t4 34 (by decide +kernel) (by decide +kernel), gw_t4 35 (by decide +kernel) (by decide +kernel)⟩
theorem lV_L_129 : lkV "WhoseDelayLaw" 129 mM_calm := ⟨gw_t6 64 (by decide +kernel) (by decide +kernel), gw_t6 65 (by decide +kernel) (by decide +kernel), gw_t6 66 (by decide +kernel) (by decide +kernel)⟩
theorem lV_L_130 : lkV "WhoseDelayLaw" 130 mD_least := ⟨gw_t4 37 (by decide +kernel) (by decide +kernel), gw_t4 38 (by decide +kernel) (by decide +kernel), gw_t4 39 (by decide +kernel) (by decide +kernel)⟩
theorem lV_L_133 : lkV "WhoseDelayLaw" 133 mM_least := ⟨gw_t6 68 (by decide +kernel) (by decide +kernel), gw_t6 69 (by decide +kernel) (by decide +kernel), gw_t6 70 (by decide +kernel) (by decide +kernel)⟩
theorem lV_L_134 : lkV "WhoseDelayLaw" 134 mD_proves := ⟨gw_t4 58 (by decide +kernel) (by decide +kernel), gw_t4 59 (by decide +kernel) (by decide +kernel), gw_t4 60 (by decide +kernel) (by decide +kernel)⟩
theorem lV_L_137 : lkV "WhoseDelayLaw" 137 mM_proves := ⟨gw_t6 85 (by decide +kernel) (by decide +kernel), gw_t6 86 (by decide +kernel) (by decide +kernel), gw_t6 87 (by decide +kernel) (by decide +kernel)⟩
theorem lV_L_138 : lkV "WhoseDelayLaw" 138 mD_voice := ⟨gw_t4 70 (by decide +kernel) (by decide +kernel), gw_t4 71 (by decide +kernel) (by decide +kernel), gw_t4 72 (by decide +kernel) (by decide +kernel)⟩
theorem lV_L_141 : lkV "WhoseDelayLaw" 141 mM_voice := ⟨gw_t6 92 (by decide +kernel) (by decide +kernel), gw_t6 93 (by decide +kernel) (by decide +kernel), gw_t6 94 (by decide +kernel) (by decide +kernel)⟩
theorem lV_L_142 : lkV "WhoseDelayLaw" 142 mD_trace := ⟨gw_t4 90 (by decide +kernel) (by decide +kernel), gw_t4 91 (by decide +kernel) (by decide +kernel), gw_t4 92 (by decide +kernel) (by decide +kernel)⟩
theorem lV_L_145 : lkV "WhoseDelayLaw" 145 mM_trace := ⟨gw_t6 115 (by decide +kernel) (by decide +kernel), gw_t6 116 (by decide +kernel) (by decide +kernel), gw_t6 117 (by decide +kernel) (by decide +kernel)⟩
theorem lV_L_146 : lkV "WhoseDelayLaw" 146 mD_sheet := ⟨gw_t4 94 (by decide +kernel) (by decide +kernel), gw_t4 95 (by decide +kernel) (by decide +kernel), gw_t4 96 (by decide +kernel) (by decide +kernel)⟩
theorem lV_L_149 : lkV "WhoseDelayLaw" 149 mM_sheet := ⟨gw_t6 119 (by decide +kernel) (by decide +kernel), gw_t6 120 (by decide +kernel) (by decide +kernel), gw_t6 121 (by decide +kernel) (by decide +kernel)⟩
theorem lV_L_150 : lkV "WhoseDelayLaw" 150 mD_put := ⟨gw_t4 102 (by decide +kernel) (by decide +kernel), gw_t4 103 (by decide +kernel) (by decide +kernel), gw_t4 104 (by decide +kernel) (by decide +kernel)⟩
theorem lV_L_153 : lkV "WhoseDelayLaw" 153 mM_put3 := ⟨gw_t6 126 (by decide +kernel) (by decide +kernel), gw_t6 127 (by decide +kernel) (by decide +kernel), gw_t6 128 (by decide +kernel) (by decide +kernel)⟩
theorem lV_L_154 : lkV "WhoseDelayLaw" 154 mD_move := ⟨gw_t4 110 (by decide +kernel) (by decide +kernel), gw_t4 111 (by decide +kernel) (by decide +kernel), gw_t4 112 (by decide +kernel) (by decide +kernel)⟩
theorem lV_L_158 : lkV "WhoseDelayLaw" 158 mM_move := ⟨gw_t6 130 (by decide +kernel) (by decide +kernel), gw_t6 131 (by decide +kernel) (by decide +kernel), gw_t6 132 (by decide +kernel) (by decide +kernel)⟩
theorem lV_L_159 : lkV "WhoseDelayLaw" 159 mD_image := ⟨gw_t4 114 (by decide +kernel) (by decide +kernel), gw_t4 115 (by decide +kernel) (by decide +kernel), gw_t4 116 (by decide +kernel) (by decide +kernel)⟩
theorem lV_L_162 : lkV "WhoseDelayLaw" 162 mM_image := ⟨gw_t6 134 (by decide +kernel) (by decide +kernel), gw_t6 135 (by decide +kernel) (by decide +kernel), gw_t6 136 (by decide +kernel) (by decide +kernel)⟩
theorem lV_L_163 : lkV "WhoseDelayLaw" 163 mD_restore := ⟨gw_t4 146 (by decide +kernel) (by decide +kernel), gw_t4 147 (by decide +kernel) (by decide +kernel), gw_t4 148 (by decide +kernel) (by decide +kernel)⟩
theorem lV_L_166 : lkV "WhoseDelayLaw" 166 mM_restore := ⟨gw_t6 138 (by decide +kernel) (by decide +kernel), gw_t6 139 (by decide +kernel) (by decide +kernel), gw_t6 140 (by decide +kernel) (by decide +kernel)⟩
theorem lV_L_167 : lkV "WhoseDelayLaw" 167 mD_told := ⟨gw_t4 150 (by decide +kernel) (by decide +kernel), gw_t4 151 (by decide +kernel) (by decide +kernel), gw_t4 152 (by decide +kernel) (by decide +kernel)⟩
theorem lV_L_170 : lkV "WhoseDelayLaw" 170 mM_told := ⟨gw_t6 142 (by decide +kernel) (by decide +kernel), gw_t6 143 (by decide +kernel) (by decide +kernel), gw_t6 144 (by decide +kernel) (by decide +kernel)⟩
theorem lV_L_171 : lkV "WhoseDelayLaw" 171 mD_found := ⟨gw_t4 155 (by decide +kernel) (by decide +kernel), gw_t4 156 (by decide +kernel) (by decide +kernel), gw_t4 157 (by decide +kernel) (by decide +kernel)⟩
theorem lV_L_174 : lkV "WhoseDelayLaw" 174 mM_found := ⟨gw_t6 146 (by decide +kernel) (by decide +kernel), gw_t6 147 (by decide +kernel) (by decide +kernel), gw_t6 148 (by decide +kernel) (by decide +kernel)⟩
theorem lV_M_64 : lkV "WhoseDelayModel" 64 mM_changed := ⟨gw_t4 165 (by decide +kernel) (by decide +kernel), gw_t4 167 (by decide +kernel) (by decide +kernel), gw_p3 (n := 26) 1 (by decide +kernel)⟩
theorem lV_M_79 : lkV "WhoseDelayModel" 79 mM_finding := ⟨gw_t5 18 (by decide +kernel) (by decide +kernel), gw_t5 20 (by decide +kernel) (by decide +kernel), gw_p3 (n := 26) 2 (by decide +kernel)⟩
theorem lV_M_84 : lkV "WhoseDelayModel" 84 mM_is := ⟨gw_t5 28 (by decide +kernel) (by decide +kernel), gw_t5 30 (by decide +kernel) (by decide +kernel), gw_p3 (n := 26) 3 (by decide +kernel)⟩
theorem lV_M_88 : lkV "WhoseDelayModel" 88 mM_kindOf := ⟨gw_t5 32 (by decide +kernel) (by decide +kernel), gw_t5 34 (by decide +kernel) (by decide +kernel), gw_p3 (n := 26) 4 (by decide +kernel)⟩
theorem lV_M_95 : lkV "WhoseDelayModel" 95 mM_longOf := ⟨gw_t5 40 (by decide +kernel) (by decide +kernel), gw_t5 42 (by decide +kernel) (by decide +kernel), gw_p3 (n := 26) 5 (by decide +kernel)⟩
theorem lV_M_98 : lkV "WhoseDelayModel" 98 mM_hurried := ⟨gw_t5 48 (by decide +kernel) (by decide +kernel), gw_t5 50 (by decide +kernel) (by decide +kernel), gw_p3 (n := 26) 6 (by decide +kernel)⟩
theorem lV_M_107 : lkV "WhoseDelayModel" 107 mM_linkAt := ⟨gw_t5 58 (by decide +kernel) (by decide +kernel), gw_t5 60 (by decide +kernel) (by decide +kernel), gw_p3 (n := 26) 7 (by decide +kernel)⟩
theorem lV_M_111 : lkV "WhoseDelayModel" 111 mM_leads := ⟨gw_t5 62 (by decide +kernel) (by decide +kernel), gw_t5 64 (by decide +kernel) (by decide +kernel), gw_p3 (n := 26) 8 (by decide +kernel)⟩
theorem lV_M_123 : lkV "WhoseDelayModel" 123 mM_event2 := ⟨gw_t5 98 (by decide +kernel) (by decide +kernel), gw_t5 100 (by decide +kernel) (by decide +kernel), gw_p3 (n := 26) 9 (by decide +kernel)⟩
theorem lV_M_132 : lkV "WhoseDelayModel" 132 mM_knownOn := ⟨gw_t5 118 (by decide +kernel) (by decide +kernel), gw_t5 120 (by decide +kernel) (by decide +kernel), gw_p3 (n := 26) 10 (by decide +kernel)⟩
theorem lV_M_144 : lkV "WhoseDelayModel" 144 mM_goesOn := ⟨gw_t5 156 (by decide +kernel) (by decide +kernel), gw_t5 158 (by decide +kernel) (by decide +kernel), gw_p4 (n := 26) 2 (by decide +kernel)⟩
theorem lV_M_147 : lkV "WhoseDelayModel" 147 mM_sort := ⟨gw_t5 147 (by decide +kernel) (by decide +kernel), gw_t5 149 (by decide +kernel) (by decide +kernel), gw_p4 (n := 26) 0 (by decide +kernel)⟩
theorem lV_M_150 : lkV "WhoseDelayModel" 150 mM_endOf := ⟨gw_t5 151 (by decide +kernel) (by decide +kernel), gw_t5 153 (by decide +kernel) (by decide +kernel), gw_p4 (n := 26) 1 (by decide +kernel)⟩
theorem lV_M_154 : lkV "WhoseDelayModel" 154 mM_needBy := ⟨gw_t5 139 (by decide +kernel) (by decide +kernel), gw_t5 141 (by decide +kernel) (by decide +kernel), gw_p3 (n := 26) 14 (by decide +kernel)⟩
theorem lV_M_158 : lkV "WhoseDelayModel" 158 mM_goThrough := ⟨gw_t5 143 (by decide +kernel) (by decide +kernel), gw_t5 145 (by decide +kernel) (by decide +kernel), gw_p3 (n := 26) 15 (by decide +kernel)⟩
theorem lV_M_162 : lkV "WhoseDelayModel" 162 mM_endBy := ⟨gw_t5 135 (by decide +kernel) (by decide +kernel), gw_t5 137 (by decide +kernel) (by decide +kernel), gw_p3 (n := 26) 13 (by decide +kernel)⟩
theorem lV_M_165 : lkV "WhoseDelayModel" 165 mM_slackOf := ⟨gw_t5 131 (by decide +kernel) (by decide +kernel), gw_t5 133 (by decide +kernel) (by decide +kernel), gw_p3 (n := 26) 12 (by decide +kernel)⟩
theorem lV_M_168 : lkV "WhoseDelayModel" 168 mM_areEvents := ⟨gw_t5 126 (by decide +kernel) (by decide +kernel), gw_t5 128 (by decide +kernel) (by decide +kernel), gw_p3 (n := 26) 11 (by decide +kernel)⟩
theorem lV_M_173 : lkV "WhoseDelayModel" 173 mM_isAhead := ⟨gw_t5 176 (by decide +kernel) (by decide +kernel), gw_t5 178 (by decide +kernel) (by decide +kernel), gw_p4 (n := 26) 4 (by decide +kernel)⟩
theorem lV_M_176 : lkV "WhoseDelayModel" 176 mM_step := ⟨gw_t5 172 (by decide +kernel) (by decide +kernel), gw_t5 174 (by decide +kernel) (by decide +kernel), gw_p4 (n := 26) 3 (by decide +kernel)⟩
theorem lV_M_185 : lkV "WhoseDelayModel" 185 mM_partOf := ⟨gw_t5 196 (by decide +kernel) (by decide +kernel), gw_t5 198 (by decide +kernel) (by decide +kernel), gw_p4 (n := 26) 5 (by decide +kernel)⟩
theorem lV_M_202 : lkV "WhoseDelayModel" 202 mM_both := ⟨gw_t5 214 (by decide +kernel) (by decide +kernel), gw_t5 216 (by decide +kernel) (by decide +kernel), gw_p4 (n := 26) 7 (by decide +kernel)⟩
theorem lV_M_205 : lkV "WhoseDelayModel" 205 mM_here := ⟨gw_t5 234 (by decide +kernel) (by decide +kernel), gw_t5 236 (by decide +kernel) (by decide +kernel), gw_p4 (n := 26) 12 (by decide +kernel)⟩
theorem lV_M_208 : lkV "WhoseDelayModel" 208 mM_put1 := ⟨gw_t6 2 (by decide +kernel) (by decide +kernel), gw_t6 4 (by decide +kernel) (by decide +kernel), gw_p4 (n := 26) 14 (by decide +kernel)⟩
theorem lV_M_211 : lkV "WhoseDelayModel" 211 mM_test := ⟨gw_t5 218 (by decide +kernel) (by decide +kernel), gw_t5 220 (by decide +kernel) (by decide +kernel), gw_p4 (n := 26) 8 (by decide +kernel)⟩
theorem lV_M_214 : lkV "WhoseDelayModel" 214 mM_sum := ⟨gw_t5 222 (by decide +kernel) (by decide +kernel), gw_t5 224 (by decide +kernel) (by decide +kernel), gw_p4 (n := 26) 9 (by decide +kernel)⟩
theorem lV_M_217 : lkV "WhoseDelayModel" 217 mM_product := ⟨gw_t5 226 (by decide +kernel) (by decide +kernel), gw_t5 228 (by decide +kernel) (by decide +kernel), gw_p4 (n := 26) 10 (by decide +kernel)⟩
theorem lV_M_220 : lkV "WhoseDelayModel" 220 mM_part := ⟨gw_t5 230 (by decide +kernel) (by decide +kernel), gw_t5 232 (by decide +kernel) (by decide +kernel), gw_p4 (n := 26) 11 (by decide +kernel)⟩
theorem lV_M_226 : lkV "WhoseDelayModel" 226 mM_opens := ⟨gw_t5 238 (by decide +kernel) (by decide +kernel), gw_t6 0 (by decide +kernel) (by decide +kernel), gw_p4 (n := 26) 13 (by decide +kernel)⟩
theorem lV_M_230 : lkV "WhoseDelayModel" 230 mM_either := ⟨gw_t5 210 (by decide +kernel) (by decide +kernel), gw_t5 212 (by decide +kernel) (by decide +kernel), gw_p4 (n := 26) 6 (by decide +kernel)⟩
theorem lV_M_240 : lkV "WhoseDelayModel" 240 mM_forced := ⟨gw_t6 15 (by decide +kernel) (by decide +kernel), gw_t6 17 (by decide +kernel) (by decide +kernel), gw_p4 (n := 26) 15 (by decide +kernel)⟩
theorem lV_M_243 : lkV "WhoseDelayModel" 243 mM_isTwo := ⟨gw_t6 35 (by decide +kernel) (by decide +kernel), gw_t6 37 (by decide +kernel) (by decide +kernel), gw_p5 (n := 26) 3 (by decide +kernel)⟩
theorem lV_M_246 : lkV "WhoseDelayModel" 246 mM_floatOf := ⟨gw_t6 39 (by decide +kernel) (by decide +kernel), gw_t6 41 (by decide +kernel) (by decide +kernel), gw_p5 (n := 26) 4 (by decide +kernel)⟩
theorem lV_M_249 : lkV "WhoseDelayModel" 249 mM_named := ⟨gw_t6 31 (by decide +kernel) (by decide +kernel), gw_t6 33 (by decide +kernel) (by decide +kernel), gw_p5 (n := 26) 2 (by decide +kernel)⟩
theorem lV_M_255 : lkV "WhoseDelayModel" 255 mM_worked := ⟨gw_t6 27 (by decide +kernel) (by decide +kernel), gw_t6 29 (by decide +kernel) (by decide +kernel), gw_p5 (n := 26) 1 (by decide +kernel)⟩
theorem lV_M_261 : lkV "WhoseDelayModel" 261 mM_saidOf := ⟨gw_t6 23 (by decide +kernel) (by decide +kernel), gw_t6 25 (by decide +kernel) (by decide +kernel), gw_p5 (n := 26) 0 (by decide +kernel)⟩
theorem lV_M_264 : lkV "WhoseDelayModel" 264 mM_withRisk := ⟨gw_t6 51 (by decide +kernel) (by decide +kernel), gw_t6 53 (by decide +kernel) (by decide +kernel), gw_p5 (n := 26) 5 (by decide +kernel)⟩
theorem lV_M_267 : lkV "WhoseDelayModel" 267 mM_paid := ⟨gw_t6 55 (by decide +kernel) (by decide +kernel), gw_t6 57 (by decide +kernel) (by decide +kernel), gw_p5 (n := 26) 6 (by decide +kernel)⟩
theorem lV_M_272 : lkV "WhoseDelayModel" 272 mM_sumHurried := ⟨gw_t6 77 (by decide +kernel) (by decide +kernel), gw_t6 79 (by decide +kernel) (by decide +kernel), gw_p5 (n := 26) 8 (by decide +kernel)⟩
theorem lV_M_275 : lkV "WhoseDelayModel" 275 mM_endHurried := ⟨gw_t6 81 (by decide +kernel) (by decide +kernel), gw_t6 83 (by decide +kernel) (by decide +kernel), gw_p5 (n := 26) 9 (by decide +kernel)⟩
theorem lV_M_280 : lkV "WhoseDelayModel" 280 mM_leastFor := ⟨gw_t6 73 (by decide +kernel) (by decide +kernel), gw_t6 75 (by decide +kernel) (by decide +kernel), gw_p5 (n := 26) 7 (by decide +kernel)⟩
theorem lV_M_292 : lkV "WhoseDelayModel" 292 mM_bodyFrom := ⟨gw_t6 100 (by decide +kernel) (by decide +kernel), gw_t6 102 (by decide +kernel) (by decide +kernel), gw_p5 (n := 26) 11 (by decide +kernel)⟩
theorem lV_M_298 : lkV "WhoseDelayModel" 298 mM_body := ⟨gw_t6 107 (by decide +kernel) (by decide +kernel), gw_t6 109 (by decide +kernel) (by decide +kernel), gw_p5 (n := 26) 12 (by decide +kernel)⟩
theorem lV_M_301 : lkV "WhoseDelayModel" 301 mM_began := ⟨gw_t6 111 (by decide +kernel) (by decide +kernel), gw_t6 113 (by decide +kernel) (by decide +kernel), gw_p5 (n := 26) 13 (by decide +kernel)⟩
theorem lV_M_304 : lkV "WhoseDelayModel" 304 mM_voiced := ⟨gw_t6 96 (by decide +kernel) (by decide +kernel), gw_t6 98 (by decide +kernel) (by decide +kernel), gw_p5 (n := 26) 10 (by decide +kernel)⟩
theorem kO_D_69 : Cond.constant "WhoseDelay" 69 (-1000001) ∈ gw := gw_t2 133 (by decide +kernel) (by decide +kernel)
theorem kO_D_83 : Cond.constant "WhoseDelay" 83 (-1000004) ∈ gw := gw_t2 139 (by decide +kernel) (by decide +kernel)
theorem kO_D_98 : Cond.constant "WhoseDelay" 98 (-1000005) ∈ gw := gw_t2 157 (by decide +kernel) (by decide +kernel)
theorem kO_D_111 : Cond.constant "WhoseDelay" 111 (-1000003) ∈ gw := gw_t2 166 (by decide +kernel) (by decide +kernel)
theorem kO_D_125 : Cond.constant "WhoseDelay" 125 (-1000002) ∈ gw := gw_t2 196 (by decide +kernel) (by decide +kernel)
theorem kO_M_67 : Cond.constant "WhoseDelayModel" 67 (-1000000) ∈ gw := gw_t5 22 (by decide +kernel) (by decide +kernel)
theorem kO_M_78 : Cond.constant "WhoseDelayModel" 78 (-1000001) ∈ gw := gw_t5 17 (by decide +kernel) (by decide +kernel)
theorem kO_M_83 : Cond.constant "WhoseDelayModel" 83 (-1000004) ∈ gw := gw_t5 23 (by decide +kernel) (by decide +kernel)
theorem kO_M_94 : Cond.constant "WhoseDelayModel" 94 (-1000005) ∈ gw := gw_t5 39 (by decide +kernel) (by decide +kernel)
theorem kO_M_101 : Cond.constant "WhoseDelayModel" 101 (-1000003) ∈ gw := gw_t5 52 (by decide +kernel) (by decide +kernel)
theorem kO_M_114 : Cond.constant "WhoseDelayModel" 114 (-1000002) ∈ gw := gw_t5 73 (by decide +kernel) (by decide +kernel)
theorem kO_L_98 : Cond.constantLong "WhoseDelayLaw" 98 4294967295 ∈ gw := gw_t6 150 (by decide +kernel) (by decide +kernel)
theorem kO_M_72 : Cond.constantLong "WhoseDelayModel" 72 3 ∈ gw := gw_t5 188 (by decide +kernel) (by decide +kernel)
theorem kO_M_74 : Cond.constantLong "WhoseDelayModel" 74 5 ∈ gw := gw_t5 12 (by decide +kernel) (by decide +kernel)
theorem kO_M_76 : Cond.constantLong "WhoseDelayModel" 76 40 ∈ gw := gw_t5 16 (by decide +kernel) (by decide +kernel)
theorem kO_M_105 : Cond.constantLong "WhoseDelayModel" 105 20 ∈ gw := gw_t5 57 (by decide +kernel) (by decide +kernel)
theorem kO_M_115 : Cond.constantLong "WhoseDelayModel" 115 127 ∈ gw := gw_t5 78 (by decide +kernel) (by decide +kernel)
theorem kO_M_117 : Cond.constantLong "WhoseDelayModel" 117 60 ∈ gw := gw_t5 83 (by decide +kernel) (by decide +kernel)
theorem kO_M_119 : Cond.constantLong "WhoseDelayModel" 119 900 ∈ gw := gw_t5 84 (by decide +kernel) (by decide +kernel)
theorem kO_M_121 : Cond.constantLong "WhoseDelayModel" 121 30 ∈ gw := gw_t5 93 (by decide +kernel) (by decide +kernel)
theorem kO_M_126 : Cond.constantLong "WhoseDelayModel" 126 6 ∈ gw := gw_t5 110 (by decide +kernel) (by decide +kernel)
theorem kO_M_171 : Cond.constantLong "WhoseDelayModel" 171 2 ∈ gw := gw_t5 130 (by decide +kernel) (by decide +kernel)
theorem kO_M_179 : Cond.constantLong "WhoseDelayModel" 179 100 ∈ gw := gw_t5 193 (by decide +kernel) (by decide +kernel)
theorem kO_M_181 : Cond.constantLong "WhoseDelayModel" 181 179 ∈ gw := gw_t5 194 (by decide +kernel) (by decide +kernel)
theorem kO_M_183 : Cond.constantLong "WhoseDelayModel" 183 (-1) ∈ gw := gw_t5 195 (by decide +kernel) (by decide +kernel)
theorem kO_M_188 : Cond.constantLong "WhoseDelayModel" 188 8 ∈ gw := gw_t5 204 (by decide +kernel) (by decide +kernel)
theorem kO_M_190 : Cond.constantLong "WhoseDelayModel" 190 255 ∈ gw := gw_t5 205 (by decide +kernel) (by decide +kernel)
theorem kO_M_233 : Cond.constantLong "WhoseDelayModel" 233 48 ∈ gw := gw_t6 6 (by decide +kernel) (by decide +kernel)
theorem kO_M_235 : Cond.constantLong "WhoseDelayModel" 235 57 ∈ gw := gw_t6 7 (by decide +kernel) (by decide +kernel)
theorem kO_M_270 : Cond.constantLong "WhoseDelayModel" 270 999 ∈ gw := gw_t6 63 (by decide +kernel) (by decide +kernel)
theorem kO_M_278 : Cond.constantLong "WhoseDelayModel" 278 9999 ∈ gw := gw_t6 72 (by decide +kernel) (by decide +kernel)
theorem kO_D_344 : Cond.constant "WhoseDelay" 344 (-1000000) ∈ gw := gw_t2 138 (by decide +kernel) (by decide +kernel)
theorem kO_J_265 : Cond.constant "java/lang/Integer" 265 1431655765 ∈ gw := gw_t1 39 (by decide +kernel) (by decide +kernel)
theorem kO_J_266 : Cond.constant "java/lang/Integer" 266 858993459 ∈ gw := gw_t1 40 (by decide +kernel) (by decide +kernel)
theorem kO_J_267 : Cond.constant "java/lang/Integer" 267 252645135 ∈ gw := gw_t1 41 (by decide +kernel) (by decide +kernel)
theorem cO_D_9 : cOK "WhoseDelay" 9 7 6 := ⟨RX7, TX7, rfl, by decide, inX7, tyX7_ok, gw_t1 24 (by decide +kernel) (by decide +kernel), gw_t1 25 (by decide +kernel) (by decide +kernel), gw_t1 2 (by decide +kernel) (by decide +kernel), by decide +kernel⟩
theorem cO_D_19 : cOK "WhoseDelay" 19 4 3 := ⟨RX4, TX4, rfl, by decide, inX4, tyX4_ok, gw_t1 238 (by decide +kernel) (by decide +kernel), gw_t1 239 (by decide +kernel) (by decide +kernel), gw_t1 9 (by decide +kernel) (by decide +kernel), by decide +kernel⟩
theorem cO_D_26 : cOK "WhoseDelay" 26 5 7 := ⟨RX5, TX5, rfl, by decide, inX5, tyX5_ok, gw_t2 17 (by decide +kernel) (by decide +kernel), gw_t2 18 (by decide +kernel) (by decide +kernel), gw_t1 10 (by decide +kernel) (by decide +kernel), by decide +kernel⟩
theorem cO_D_33 : cOK "WhoseDelay" 33 8 5 := ⟨RX8, TX8, rfl, by decide, inX8, tyX8_ok, gw_t2 46 (by decide +kernel) (by decide +kernel), gw_t2 47 (by decide +kernel) (by decide +kernel), gw_t1 11 (by decide +kernel) (by decide +kernel), by decide +kernel⟩
theorem cO_D_40 : cOK "WhoseDelay" 40 6 3 := ⟨RX6, TX6, rfl, by decide, inX6, tyX6_ok, gw_t2 70 (by decide +kernel) (by decide +kernel), gw_t2 72 (by decide +kernel) (by decide +kernel), gw_t1 12 (by decide +kernel) (by decide +kernel), by decide +kernel⟩
theorem cO_T_7 : cOK "WhoseDelay$Site" 7 1 5 := ⟨RX1, TX1, rfl, by decide, inX1, tyX1_ok, gw_t1 30 (by decide +kernel) (by decide +kernel), gw_t1 31 (by decide +kernel) (by decide +kernel), gw_t1 3 (by decide +kernel) (by decide +kernel), by decide +kernel⟩
theorem cO_T_16 : cOK "WhoseDelay$Site" 16 9 8 := ⟨RX9, TX9, rfl, by decide, inX9, tyX9_ok, gw_t1 72 (by decide +kernel) (by decide +kernel), gw_t1 73 (by decide +kernel) (by decide +kernel), gw_t1 5 (by decide +kernel) (by decide +kernel), by decide +kernel⟩
theorem cO_T_23 : cOK "WhoseDelay$Site" 23 2 8 := ⟨RX2, TX2, rfl, by decide, inX2, tyX2_ok, gw_t1 113 (by decide +kernel) (by decide +kernel), gw_t1 114 (by decide +kernel) (by decide +kernel), gw_t1 6 (by decide +kernel) (by decide +kernel), by decide +kernel⟩
theorem cO_T_30 : cOK "WhoseDelay$Site" 30 0 7 := ⟨RX0, TX0, rfl, by decide, inX0, tyX0_ok, gw_t1 155 (by decide +kernel) (by decide +kernel), gw_t1 156 (by decide +kernel) (by decide +kernel), gw_t1 7 (by decide +kernel) (by decide +kernel), by decide +kernel⟩
theorem cO_T_37 : cOK "WhoseDelay$Site" 37 3 4 := ⟨RX3, TX3, rfl, by decide, inX3, tyX3_ok, gw_t1 189 (by decide +kernel) (by decide +kernel), gw_t1 190 (by decide +kernel) (by decide +kernel), gw_t1 8 (by decide +kernel) (by decide +kernel), by decide +kernel⟩
theorem cO_L_7 : cOK "WhoseDelayLaw" 7 10 10 := ⟨RX10, TX10, rfl, by decide, inX10, tyX10_ok, gw_t1 16 (by decide +kernel) (by decide +kernel), gw_t1 17 (by decide +kernel) (by decide +kernel), gw_t1 1 (by decide +kernel) (by decide +kernel), by decide +kernel⟩
theorem cO_L_10 : cOK "WhoseDelayLaw" 10 11 26 := ⟨RX11, TX11, rfl, by decide, inX11, tyX11_ok, gw_t4 159 (by decide +kernel) (by decide +kernel), gw_t4 160 (by decide +kernel) (by decide +kernel), gw_t1 13 (by decide +kernel) (by decide +kernel), by decide +kernel⟩
theorem fW_D_12 : fOKw "WhoseDelay" 12 10 0 10 true := ⟨RX10, TX10, rfl, by decide, by decide, inX10, tyX10_ok, nmX10, gw_t2 92 (by decide +kernel) (by decide +kernel), rfl, fun _ => rfl⟩
theorem fW_D_16 : fOKw "WhoseDelay" 16 10 1 10 true := ⟨RX10, TX10, rfl, by decide, by decide, inX10, tyX10_ok, nmX10, gw_t2 93 (by decide +kernel) (by decide +kernel), rfl, fun _ => rfl⟩
theorem fW_D_22 : fOKw "WhoseDelay" 22 10 2 10 true := ⟨RX10, TX10, rfl, by decide, by decide, inX10, tyX10_ok, nmX10, gw_t2 94 (by decide +kernel) (by decide +kernel), rfl, fun _ => rfl⟩
theorem fW_D_29 : fOKw "WhoseDelay" 29 10 3 10 true := ⟨RX10, TX10, rfl, by decide, by decide, inX10, tyX10_ok, nmX10, gw_t2 95 (by decide +kernel) (by decide +kernel), rfl, fun _ => rfl⟩
theorem fW_D_36 : fOKw "WhoseDelay" 36 10 4 10 true := ⟨RX10, TX10, rfl, by decide, by decide, inX10, tyX10_ok, nmX10, gw_t2 96 (by decide +kernel) (by decide +kernel), rfl, fun _ => rfl⟩
theorem fW_D_42 : fOKw "WhoseDelay" 42 10 5 10 true := ⟨RX10, TX10, rfl, by decide, by decide, inX10, tyX10_ok, nmX10, gw_t2 97 (by decide +kernel) (by decide +kernel), rfl, fun _ => rfl⟩
theorem fW_D_46 : fOKw "WhoseDelay" 46 10 6 10 true := ⟨RX10, TX10, rfl, by decide, by decide, inX10, tyX10_ok, nmX10, gw_t2 98 (by decide +kernel) (by decide +kernel), rfl, fun _ => rfl⟩
theorem fW_D_50 : fOKw "WhoseDelay" 50 10 7 10 true := ⟨RX10, TX10, rfl, by decide, by decide, inX10, tyX10_ok, nmX10, gw_t2 99 (by decide +kernel) (by decide +kernel), rfl, fun _ => rfl⟩
theorem fW_D_53 : fOKw "WhoseDelay" 53 10 8 10 true := ⟨RX10, TX10, rfl, by decide, by decide, inX10, tyX10_ok, nmX10, gw_t2 100 (by decide +kernel) (by decide +kernel), rfl, fun _ => rfl⟩
theorem fW_D_56 : fOKw "WhoseDelay" 56 10 9 10 false := ⟨RX10, TX10, rfl, by decide, by decide, inX10, tyX10_ok, nmX10, gw_t2 101 (by decide +kernel) (by decide +kernel), rfl, fun h => by cases h⟩
theorem fW_D_142 : fOKw "WhoseDelay" 142 7 5 6 false := ⟨RX7, TX7, rfl, by decide, by decide, inX7, tyX7_ok, nmX7, gw_t1 224 (by decide +kernel) (by decide +kernel), rfl, fun h => by cases h⟩
theorem fW_D_231 : fOKw "WhoseDelay" 231 0 5 7 false := ⟨RX0, TX0, rfl, by decide, by decide, inX0, tyX0_ok, nmX0, gw_t1 170 (by decide +kernel) (by decide +kernel), rfl, fun h => by cases h⟩
theorem fW_D_278 : fOKw "WhoseDelay" 278 3 3 4 false := ⟨RX3, TX3, rfl, by decide, by decide, inX3, tyX3_ok, nmX3, gw_t1 200 (by decide +kernel) (by decide +kernel), rfl, fun h => by cases h⟩
theorem fW_C_9 : fOKw "WhoseDelay$Contract" 9 0 0 7 true := ⟨RX0, TX0, rfl, by decide, by decide, inX0, tyX0_ok, nmX0, gw_t1 161 (by decide +kernel) (by decide +kernel), rfl, fun _ => rfl⟩
theorem fW_C_15 : fOKw "WhoseDelay$Contract" 15 0 1 7 true := ⟨RX0, TX0, rfl, by decide, by decide, inX0, tyX0_ok, nmX0, gw_t1 163 (by decide +kernel) (by decide +kernel), rfl, fun _ => rfl⟩
theorem fW_C_18 : fOKw "WhoseDelay$Contract" 18 0 2 7 true := ⟨RX0, TX0, rfl, by decide, by decide, inX0, tyX0_ok, nmX0, gw_t1 165 (by decide +kernel) (by decide +kernel), rfl, fun _ => rfl⟩
theorem fW_C_22 : fOKw "WhoseDelay$Contract" 22 0 3 7 true := ⟨RX0, TX0, rfl, by decide, by decide, inX0, tyX0_ok, nmX0, gw_t1 167 (by decide +kernel) (by decide +kernel), rfl, fun _ => rfl⟩
theorem fW_C_25 : fOKw "WhoseDelay$Contract" 25 0 4 7 true := ⟨RX0, TX0, rfl, by decide, by decide, inX0, tyX0_ok, nmX0, gw_t1 168 (by decide +kernel) (by decide +kernel), rfl, fun _ => rfl⟩
theorem fW_C_28 : fOKw "WhoseDelay$Contract" 28 0 5 7 false := ⟨RX0, TX0, rfl, by decide, by decide, inX0, tyX0_ok, nmX0, gw_t1 169 (by decide +kernel) (by decide +kernel), rfl, fun h => by cases h⟩
theorem fW_C_32 : fOKw "WhoseDelay$Contract" 32 0 6 7 false := ⟨RX0, TX0, rfl, by decide, by decide, inX0, tyX0_ok, nmX0, gw_t1 171 (by decide +kernel) (by decide +kernel), rfl, fun h => by cases h⟩
theorem fW_Y_9 : fOKw "WhoseDelay$Days" 9 1 0 5 true := ⟨RX1, TX1, rfl, by decide, by decide, inX1, tyX1_ok, nmX1, gw_t1 53 (by decide +kernel) (by decide +kernel), rfl, fun _ => rfl⟩
theorem fW_Y_15 : fOKw "WhoseDelay$Days" 15 1 1 5 true := ⟨RX1, TX1, rfl, by decide, by decide, inX1, tyX1_ok, nmX1, gw_t1 54 (by decide +kernel) (by decide +kernel), rfl, fun _ => rfl⟩
theorem fW_Y_19 : fOKw "WhoseDelay$Days" 19 1 2 5 false := ⟨RX1, TX1, rfl, by decide, by decide, inX1, tyX1_ok, nmX1, gw_t1 55 (by decide +kernel) (by decide +kernel), rfl, fun h => by cases h⟩
theorem fW_Y_23 : fOKw "WhoseDelay$Days" 23 1 3 5 false := ⟨RX1, TX1, rfl, by decide, by decide, inX1, tyX1_ok, nmX1, gw_t1 57 (by decide +kernel) (by decide +kernel), rfl, fun h => by cases h⟩
theorem fW_Y_32 : fOKw "WhoseDelay$Days" 32 1 4 5 false := ⟨RX1, TX1, rfl, by decide, by decide, inX1, tyX1_ok, nmX1, gw_t1 58 (by decide +kernel) (by decide +kernel), rfl, fun h => by cases h⟩
theorem fW_E_9 : fOKw "WhoseDelay$Events" 9 2 0 8 true := ⟨RX2, TX2, rfl, by decide, by decide, inX2, tyX2_ok, nmX2, gw_t1 119 (by decide +kernel) (by decide +kernel), rfl, fun _ => rfl⟩
theorem fW_E_15 : fOKw "WhoseDelay$Events" 15 2 1 8 true := ⟨RX2, TX2, rfl, by decide, by decide, inX2, tyX2_ok, nmX2, gw_t1 122 (by decide +kernel) (by decide +kernel), rfl, fun _ => rfl⟩
theorem fW_E_18 : fOKw "WhoseDelay$Events" 18 2 2 8 true := ⟨RX2, TX2, rfl, by decide, by decide, inX2, tyX2_ok, nmX2, gw_t1 124 (by decide +kernel) (by decide +kernel), rfl, fun _ => rfl⟩
theorem fW_E_21 : fOKw "WhoseDelay$Events" 21 2 3 8 true := ⟨RX2, TX2, rfl, by decide, by decide, inX2, tyX2_ok, nmX2, gw_t1 126 (by decide +kernel) (by decide +kernel), rfl, fun _ => rfl⟩
theorem fW_E_24 : fOKw "WhoseDelay$Events" 24 2 4 8 true := ⟨RX2, TX2, rfl, by decide, by decide, inX2, tyX2_ok, nmX2, gw_t1 129 (by decide +kernel) (by decide +kernel), rfl, fun _ => rfl⟩
theorem fW_E_27 : fOKw "WhoseDelay$Events" 27 2 5 8 true := ⟨RX2, TX2, rfl, by decide, by decide, inX2, tyX2_ok, nmX2, gw_t1 131 (by decide +kernel) (by decide +kernel), rfl, fun _ => rfl⟩
theorem fW_E_30 : fOKw "WhoseDelay$Events" 30 2 6 8 true := ⟨RX2, TX2, rfl, by decide, by decide, inX2, tyX2_ok, nmX2, gw_t1 133 (by decide +kernel) (by decide +kernel), rfl, fun _ => rfl⟩
theorem fW_E_33 : fOKw "WhoseDelay$Events" 33 2 7 8 false := ⟨RX2, TX2, rfl, by decide, by decide, inX2, tyX2_ok, nmX2, gw_t1 135 (by decide +kernel) (by decide +kernel), rfl, fun h => by cases h⟩
theorem fW_H_9 : fOKw "WhoseDelay$Haste" 9 3 0 4 true := ⟨RX3, TX3, rfl, by decide, by decide, inX3, tyX3_ok, nmX3, gw_t1 195 (by decide +kernel) (by decide +kernel), rfl, fun _ => rfl⟩
theorem fW_H_15 : fOKw "WhoseDelay$Haste" 15 3 1 4 true := ⟨RX3, TX3, rfl, by decide, by decide, inX3, tyX3_ok, nmX3, gw_t1 197 (by decide +kernel) (by decide +kernel), rfl, fun _ => rfl⟩
theorem fW_H_18 : fOKw "WhoseDelay$Haste" 18 3 2 4 true := ⟨RX3, TX3, rfl, by decide, by decide, inX3, tyX3_ok, nmX3, gw_t1 198 (by decide +kernel) (by decide +kernel), rfl, fun _ => rfl⟩
theorem fW_H_21 : fOKw "WhoseDelay$Haste" 21 3 3 4 false := ⟨RX3, TX3, rfl, by decide, by decide, inX3, tyX3_ok, nmX3, gw_t1 199 (by decide +kernel) (by decide +kernel), rfl, fun h => by cases h⟩
theorem fW_P_9 : fOKw "WhoseDelay$Plan" 9 4 0 3 true := ⟨RX4, TX4, rfl, by decide, by decide, inX4, tyX4_ok, nmX4, gw_t2 4 (by decide +kernel) (by decide +kernel), rfl, fun _ => rfl⟩
theorem fW_P_15 : fOKw "WhoseDelay$Plan" 15 4 1 3 true := ⟨RX4, TX4, rfl, by decide, by decide, inX4, tyX4_ok, nmX4, gw_t2 6 (by decide +kernel) (by decide +kernel), rfl, fun _ => rfl⟩
theorem fW_P_18 : fOKw "WhoseDelay$Plan" 18 4 2 3 true := ⟨RX4, TX4, rfl, by decide, by decide, inX4, tyX4_ok, nmX4, gw_t2 8 (by decide +kernel) (by decide +kernel), rfl, fun _ => rfl⟩
theorem fW_R_9 : fOKw "WhoseDelay$Reader" 9 5 0 7 true := ⟨RX5, TX5, rfl, by decide, by decide, inX5, tyX5_ok, nmX5, gw_t2 23 (by decide +kernel) (by decide +kernel), rfl, fun _ => rfl⟩
theorem fW_R_15 : fOKw "WhoseDelay$Reader" 15 5 1 7 false := ⟨RX5, TX5, rfl, by decide, by decide, inX5, tyX5_ok, nmX5, gw_t2 25 (by decide +kernel) (by decide +kernel), rfl, fun h => by cases h⟩
theorem fW_R_19 : fOKw "WhoseDelay$Reader" 19 5 2 7 false := ⟨RX5, TX5, rfl, by decide, by decide, inX5, tyX5_ok, nmX5, gw_t2 26 (by decide +kernel) (by decide +kernel), rfl, fun h => by cases h⟩
theorem fW_R_23 : fOKw "WhoseDelay$Reader" 23 5 3 7 false := ⟨RX5, TX5, rfl, by decide, by decide, inX5, tyX5_ok, nmX5, gw_t2 27 (by decide +kernel) (by decide +kernel), rfl, fun h => by cases h⟩
theorem fW_R_26 : fOKw "WhoseDelay$Reader" 26 5 4 7 false := ⟨RX5, TX5, rfl, by decide, by decide, inX5, tyX5_ok, nmX5, gw_t2 28 (by decide +kernel) (by decide +kernel), rfl, fun h => by cases h⟩
theorem fW_R_29 : fOKw "WhoseDelay$Reader" 29 5 5 7 false := ⟨RX5, TX5, rfl, by decide, by decide, inX5, tyX5_ok, nmX5, gw_t2 29 (by decide +kernel) (by decide +kernel), rfl, fun h => by cases h⟩
theorem fW_R_32 : fOKw "WhoseDelay$Reader" 32 5 6 7 false := ⟨RX5, TX5, rfl, by decide, by decide, inX5, tyX5_ok, nmX5, gw_t2 30 (by decide +kernel) (by decide +kernel), rfl, fun h => by cases h⟩
theorem fW_S_9 : fOKw "WhoseDelay$Sheet" 9 6 0 3 true := ⟨RX6, TX6, rfl, by decide, by decide, inX6, tyX6_ok, nmX6, gw_t2 77 (by decide +kernel) (by decide +kernel), rfl, fun _ => rfl⟩
theorem fW_S_15 : fOKw "WhoseDelay$Sheet" 15 6 1 3 false := ⟨RX6, TX6, rfl, by decide, by decide, inX6, tyX6_ok, nmX6, gw_t2 80 (by decide +kernel) (by decide +kernel), rfl, fun h => by cases h⟩
theorem fW_S_19 : fOKw "WhoseDelay$Sheet" 19 6 2 3 false := ⟨RX6, TX6, rfl, by decide, by decide, inX6, tyX6_ok, nmX6, gw_t2 82 (by decide +kernel) (by decide +kernel), rfl, fun h => by cases h⟩
theorem fW_T_10 : fOKw "WhoseDelay$Site" 10 7 0 6 true := ⟨RX7, TX7, rfl, by decide, by decide, inX7, tyX7_ok, nmX7, gw_t1 210 (by decide +kernel) (by decide +kernel), rfl, fun _ => rfl⟩
theorem fW_T_19 : fOKw "WhoseDelay$Site" 19 7 1 6 true := ⟨RX7, TX7, rfl, by decide, by decide, inX7, tyX7_ok, nmX7, gw_t1 213 (by decide +kernel) (by decide +kernel), rfl, fun _ => rfl⟩
theorem fW_T_26 : fOKw "WhoseDelay$Site" 26 7 2 6 true := ⟨RX7, TX7, rfl, by decide, by decide, inX7, tyX7_ok, nmX7, gw_t1 216 (by decide +kernel) (by decide +kernel), rfl, fun _ => rfl⟩
theorem fW_T_33 : fOKw "WhoseDelay$Site" 33 7 3 6 true := ⟨RX7, TX7, rfl, by decide, by decide, inX7, tyX7_ok, nmX7, gw_t1 219 (by decide +kernel) (by decide +kernel), rfl, fun _ => rfl⟩
theorem fW_T_40 : fOKw "WhoseDelay$Site" 40 7 4 6 true := ⟨RX7, TX7, rfl, by decide, by decide, inX7, tyX7_ok, nmX7, gw_t1 221 (by decide +kernel) (by decide +kernel), rfl, fun _ => rfl⟩
theorem fW_T_44 : fOKw "WhoseDelay$Site" 44 7 5 6 false := ⟨RX7, TX7, rfl, by decide, by decide, inX7, tyX7_ok, nmX7, gw_t1 223 (by decide +kernel) (by decide +kernel), rfl, fun h => by cases h⟩
theorem fW_V_9 : fOKw "WhoseDelay$Voices" 9 8 0 5 true := ⟨RX8, TX8, rfl, by decide, by decide, inX8, tyX8_ok, nmX8, gw_t2 52 (by decide +kernel) (by decide +kernel), rfl, fun _ => rfl⟩
theorem fW_V_15 : fOKw "WhoseDelay$Voices" 15 8 1 5 false := ⟨RX8, TX8, rfl, by decide, by decide, inX8, tyX8_ok, nmX8, gw_t2 54 (by decide +kernel) (by decide +kernel), rfl, fun h => by cases h⟩
theorem fW_V_19 : fOKw "WhoseDelay$Voices" 19 8 2 5 false := ⟨RX8, TX8, rfl, by decide, by decide, inX8, tyX8_ok, nmX8, gw_t2 56 (by decide +kernel) (by decide +kernel), rfl, fun h => by cases h⟩
theorem fW_V_22 : fOKw "WhoseDelay$Voices" 22 8 3 5 false := ⟨RX8, TX8, rfl, by decide, by decide, inX8, tyX8_ok, nmX8, gw_t2 57 (by decide +kernel) (by decide +kernel), rfl, fun h => by cases h⟩
theorem fW_V_25 : fOKw "WhoseDelay$Voices" 25 8 4 5 false := ⟨RX8, TX8, rfl, by decide, by decide, inX8, tyX8_ok, nmX8, gw_t2 58 (by decide +kernel) (by decide +kernel), rfl, fun h => by cases h⟩
theorem fW_W_9 : fOKw "WhoseDelay$Works" 9 9 0 8 true := ⟨RX9, TX9, rfl, by decide, by decide, inX9, tyX9_ok, nmX9, gw_t1 78 (by decide +kernel) (by decide +kernel), rfl, fun _ => rfl⟩
theorem fW_W_15 : fOKw "WhoseDelay$Works" 15 9 1 8 true := ⟨RX9, TX9, rfl, by decide, by decide, inX9, tyX9_ok, nmX9, gw_t1 81 (by decide +kernel) (by decide +kernel), rfl, fun _ => rfl⟩
theorem fW_W_18 : fOKw "WhoseDelay$Works" 18 9 2 8 true := ⟨RX9, TX9, rfl, by decide, by decide, inX9, tyX9_ok, nmX9, gw_t1 84 (by decide +kernel) (by decide +kernel), rfl, fun _ => rfl⟩
theorem fW_W_21 : fOKw "WhoseDelay$Works" 21 9 3 8 true := ⟨RX9, TX9, rfl, by decide, by decide, inX9, tyX9_ok, nmX9, gw_t1 86 (by decide +kernel) (by decide +kernel), rfl, fun _ => rfl⟩
theorem fW_W_24 : fOKw "WhoseDelay$Works" 24 9 4 8 true := ⟨RX9, TX9, rfl, by decide, by decide, inX9, tyX9_ok, nmX9, gw_t1 87 (by decide +kernel) (by decide +kernel), rfl, fun _ => rfl⟩
theorem fW_W_27 : fOKw "WhoseDelay$Works" 27 9 5 8 true := ⟨RX9, TX9, rfl, by decide, by decide, inX9, tyX9_ok, nmX9, gw_t1 89 (by decide +kernel) (by decide +kernel), rfl, fun _ => rfl⟩
theorem fW_W_30 : fOKw "WhoseDelay$Works" 30 9 6 8 false := ⟨RX9, TX9, rfl, by decide, by decide, inX9, tyX9_ok, nmX9, gw_t1 91 (by decide +kernel) (by decide +kernel), rfl, fun h => by cases h⟩
theorem fW_W_34 : fOKw "WhoseDelay$Works" 34 9 7 8 false := ⟨RX9, TX9, rfl, by decide, by decide, inX9, tyX9_ok, nmX9, gw_t1 94 (by decide +kernel) (by decide +kernel), rfl, fun h => by cases h⟩
theorem fW_M_9 : fOKw "WhoseDelayModel" 9 11 0 26 true := ⟨RX11, TX11, rfl, by decide, by decide, inX11, tyX11_ok, nmX11, gw_t4 169 (by decide +kernel) (by decide +kernel), rfl, fun _ => rfl⟩
theorem fW_M_13 : fOKw "WhoseDelayModel" 13 11 1 26 true := ⟨RX11, TX11, rfl, by decide, by decide, inX11, tyX11_ok, nmX11, gw_t4 170 (by decide +kernel) (by decide +kernel), rfl, fun _ => rfl⟩
theorem fW_M_16 : fOKw "WhoseDelayModel" 16 11 3 26 true := ⟨RX11, TX11, rfl, by decide, by decide, inX11, tyX11_ok, nmX11, gw_t4 172 (by decide +kernel) (by decide +kernel), rfl, fun _ => rfl⟩
theorem fW_M_19 : fOKw "WhoseDelayModel" 19 11 4 26 true := ⟨RX11, TX11, rfl, by decide, by decide, inX11, tyX11_ok, nmX11, gw_t4 173 (by decide +kernel) (by decide +kernel), rfl, fun _ => rfl⟩
theorem fW_M_22 : fOKw "WhoseDelayModel" 22 11 5 26 true := ⟨RX11, TX11, rfl, by decide, by decide, inX11, tyX11_ok, nmX11, gw_t4 174 (by decide +kernel) (by decide +kernel), rfl, fun _ => rfl⟩
theorem fW_M_25 : fOKw "WhoseDelayModel" 25 11 6 26 true := ⟨RX11, TX11, rfl, by decide, by decide, inX11, tyX11_ok, nmX11, gw_t4 175 (by decide +kernel) (by decide +kernel), rfl, fun _ => rfl⟩
theorem fW_M_28 : fOKw "WhoseDelayModel" 28 11 7 26 true := ⟨RX11, TX11, rfl, by decide, by decide, inX11, tyX11_ok, nmX11, gw_t4 176 (by decide +kernel) (by decide +kernel), rfl, fun _ => rfl⟩
theorem fW_M_31 : fOKw "WhoseDelayModel" 31 11 9 26 true := ⟨RX11, TX11, rfl, by decide, by decide, inX11, tyX11_ok, nmX11, gw_t4 178 (by decide +kernel) (by decide +kernel), rfl, fun _ => rfl⟩
theorem fW_M_34 : fOKw "WhoseDelayModel" 34 11 10 26 true := ⟨RX11, TX11, rfl, by decide, by decide, inX11, tyX11_ok, nmX11, gw_t4 179 (by decide +kernel) (by decide +kernel), rfl, fun _ => rfl⟩
theorem fW_M_37 : fOKw "WhoseDelayModel" 37 11 11 26 true := ⟨RX11, TX11, rfl, by decide, by decide, inX11, tyX11_ok, nmX11, gw_t4 180 (by decide +kernel) (by decide +kernel), rfl, fun _ => rfl⟩
theorem fW_M_40 : fOKw "WhoseDelayModel" 40 11 12 26 true := ⟨RX11, TX11, rfl, by decide, by decide, inX11, tyX11_ok, nmX11, gw_t4 181 (by decide +kernel) (by decide +kernel), rfl, fun _ => rfl⟩
theorem fW_M_43 : fOKw "WhoseDelayModel" 43 11 14 26 true := ⟨RX11, TX11, rfl, by decide, by decide, inX11, tyX11_ok, nmX11, gw_t4 183 (by decide +kernel) (by decide +kernel), rfl, fun _ => rfl⟩
theorem fW_M_46 : fOKw "WhoseDelayModel" 46 11 15 26 true := ⟨RX11, TX11, rfl, by decide, by decide, inX11, tyX11_ok, nmX11, gw_t4 184 (by decide +kernel) (by decide +kernel), rfl, fun _ => rfl⟩
theorem fW_M_49 : fOKw "WhoseDelayModel" 49 11 19 26 true := ⟨RX11, TX11, rfl, by decide, by decide, inX11, tyX11_ok, nmX11, gw_t4 188 (by decide +kernel) (by decide +kernel), rfl, fun _ => rfl⟩
theorem fW_M_52 : fOKw "WhoseDelayModel" 52 11 21 26 true := ⟨RX11, TX11, rfl, by decide, by decide, inX11, tyX11_ok, nmX11, gw_t4 190 (by decide +kernel) (by decide +kernel), rfl, fun _ => rfl⟩
theorem fW_M_55 : fOKw "WhoseDelayModel" 55 11 22 26 true := ⟨RX11, TX11, rfl, by decide, by decide, inX11, tyX11_ok, nmX11, gw_t4 191 (by decide +kernel) (by decide +kernel), rfl, fun _ => rfl⟩
theorem fW_M_58 : fOKw "WhoseDelayModel" 58 11 23 26 true := ⟨RX11, TX11, rfl, by decide, by decide, inX11, tyX11_ok, nmX11, gw_t4 192 (by decide +kernel) (by decide +kernel), rfl, fun _ => rfl⟩
theorem fW_M_61 : fOKw "WhoseDelayModel" 61 11 25 26 true := ⟨RX11, TX11, rfl, by decide, by decide, inX11, tyX11_ok, nmX11, gw_t4 194 (by decide +kernel) (by decide +kernel), rfl, fun _ => rfl⟩
theorem fW_M_135 : fOKw "WhoseDelayModel" 135 11 13 26 false := ⟨RX11, TX11, rfl, by decide, by decide, inX11, tyX11_ok, nmX11, gw_t4 182 (by decide +kernel) (by decide +kernel), rfl, fun h => by cases h⟩
theorem fW_M_192 : fOKw "WhoseDelayModel" 192 11 18 26 false := ⟨RX11, TX11, rfl, by decide, by decide, inX11, tyX11_ok, nmX11, gw_t4 187 (by decide +kernel) (by decide +kernel), rfl, fun h => by cases h⟩
theorem fW_M_195 : fOKw "WhoseDelayModel" 195 11 16 26 false := ⟨RX11, TX11, rfl, by decide, by decide, inX11, tyX11_ok, nmX11, gw_t4 185 (by decide +kernel) (by decide +kernel), rfl, fun h => by cases h⟩
theorem fW_M_199 : fOKw "WhoseDelayModel" 199 11 20 26 false := ⟨RX11, TX11, rfl, by decide, by decide, inX11, tyX11_ok, nmX11, gw_t4 189 (by decide +kernel) (by decide +kernel), rfl, fun h => by cases h⟩
theorem fW_M_223 : fOKw "WhoseDelayModel" 223 11 17 26 false := ⟨RX11, TX11, rfl, by decide, by decide, inX11, tyX11_ok, nmX11, gw_t4 186 (by decide +kernel) (by decide +kernel), rfl, fun h => by cases h⟩
theorem fW_M_286 : fOKw "WhoseDelayModel" 286 11 8 26 false := ⟨RX11, TX11, rfl, by decide, by decide, inX11, tyX11_ok, nmX11, gw_t4 177 (by decide +kernel) (by decide +kernel), rfl, fun h => by cases h⟩
theorem fW_M_289 : fOKw "WhoseDelayModel" 289 11 24 26 false := ⟨RX11, TX11, rfl, by decide, by decide, inX11, tyX11_ok, nmX11, gw_t4 193 (by decide +kernel) (by decide +kernel), rfl, fun h => by cases h⟩
theorem fW_M_310 : fOKw "WhoseDelayModel" 310 11 2 26 false := ⟨RX11, TX11, rfl, by decide, by decide, inX11, tyX11_ok, nmX11, gw_t4 171 (by decide +kernel) (by decide +kernel), rfl, fun h => by cases h⟩
theorem oI : Cond.instanceMethod Lib.objectInit ∈ gw := gw_t1 22 (by decide +kernel) (by decide +kernel)
theorem oC : Cond.code Lib.objectInit ⟨#[0xb1]⟩ 1 none ∈ gw := gw_t1 23 (by decide +kernel) (by decide +kernel)
theorem aT_long : Cond.arrayClass .long ∈ gw := gw_t1 70 (by decide +kernel) (by decide +kernel)
theorem aT_int : Cond.arrayClass .int ∈ gw := gw_t1 71 (by decide +kernel) (by decide +kernel)
theorem aT_byte : Cond.arrayClass .byte ∈ gw := gw_t1 188 (by decide +kernel) (by decide +kernel)
