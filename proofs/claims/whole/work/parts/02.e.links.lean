theorem ns_0 : Cond.methodLinkNest "OrphanLogs$Office" (19 : Nat) ({ cls := "OrphanLogs$Post", name := "<init>", desc := "()V" } : Jvm.MethodName) "OrphanLogs" ∈ nsT := List.mem_of_getElem? (i := 0) rfl
theorem ns_1 : Cond.fieldLinkNest "OrphanLogs$Office" (51 : Nat) "OrphanLogs$Post" "count" "I" "OrphanLogs" ∈ nsT := List.mem_of_getElem? (i := 1) rfl
theorem ns_2 : Cond.fieldLinkNest "OrphanLogs" (196 : Nat) "OrphanLogs$Post" "count" "I" "OrphanLogs" ∈ nsT := List.mem_of_getElem? (i := 2) rfl
theorem ns_3 : Cond.fieldLinkNest "OrphanLogs$Office" (214 : Nat) "OrphanLogs$Post" "senders" "[I" "OrphanLogs" ∈ nsT := List.mem_of_getElem? (i := 3) rfl
theorem ns_4 : Cond.fieldLinkNest "OrphanLogs$Office" (81 : Nat) "OrphanLogs$Post" "sums" "[I" "OrphanLogs" ∈ nsT := List.mem_of_getElem? (i := 4) rfl
theorem ns_5 : Cond.fieldLinkNest "OrphanLogs$Office" (89 : Nat) "OrphanLogs$Post" "rests" "LOrphanLogs$Rests;" "OrphanLogs" ∈ nsT := List.mem_of_getElem? (i := 5) rfl
theorem ns_6 : Cond.methodLinkNest "OrphanLogs$Office" (26 : Nat) ({ cls := "OrphanLogs$Sayings", name := "<init>", desc := "()V" } : Jvm.MethodName) "OrphanLogs" ∈ nsT := List.mem_of_getElem? (i := 6) rfl
theorem ns_7 : Cond.fieldLinkNest "OrphanLogs$Office" (172 : Nat) "OrphanLogs$Sayings" "count" "I" "OrphanLogs" ∈ nsT := List.mem_of_getElem? (i := 7) rfl
theorem ns_8 : Cond.fieldLinkNest "OrphanLogs" (179 : Nat) "OrphanLogs$Sayings" "count" "I" "OrphanLogs" ∈ nsT := List.mem_of_getElem? (i := 8) rfl
theorem ns_9 : Cond.fieldLinkNest "OrphanLogs" (202 : Nat) "OrphanLogs$Sayings" "releasedCount" "I" "OrphanLogs" ∈ nsT := List.mem_of_getElem? (i := 9) rfl
theorem ns_10 : Cond.fieldLinkNest "OrphanLogs$Office" (181 : Nat) "OrphanLogs$Sayings" "clerks" "[I" "OrphanLogs" ∈ nsT := List.mem_of_getElem? (i := 10) rfl
theorem ns_11 : Cond.fieldLinkNest "OrphanLogs$Office" (183 : Nat) "OrphanLogs$Sayings" "pages" "[I" "OrphanLogs" ∈ nsT := List.mem_of_getElem? (i := 11) rfl
theorem ns_12 : Cond.fieldLinkNest "OrphanLogs$Office" (217 : Nat) "OrphanLogs$Sayings" "states" "[I" "OrphanLogs" ∈ nsT := List.mem_of_getElem? (i := 12) rfl
theorem ns_13 : Cond.methodLinkNest "OrphanLogs$Office" (33 : Nat) ({ cls := "OrphanLogs$Loss", name := "<init>", desc := "()V" } : Jvm.MethodName) "OrphanLogs" ∈ nsT := List.mem_of_getElem? (i := 13) rfl
theorem ns_14 : Cond.fieldLinkNest "OrphanLogs$Post" (34 : Nat) "OrphanLogs$Clerk" "number" "I" "OrphanLogs" ∈ nsT := List.mem_of_getElem? (i := 14) rfl
theorem ns_15 : Cond.fieldLinkNest "OrphanLogs$Office" (115 : Nat) "OrphanLogs$Clerk" "life" "I" "OrphanLogs" ∈ nsT := List.mem_of_getElem? (i := 15) rfl
theorem ns_16 : Cond.fieldLinkNest "OrphanLogs$Loss" (32 : Nat) "OrphanLogs$Clerk" "now" "I" "OrphanLogs" ∈ nsT := List.mem_of_getElem? (i := 16) rfl
theorem ns_17 : Cond.fieldLinkNest "OrphanLogs$Post" (48 : Nat) "OrphanLogs$Clerk" "now" "I" "OrphanLogs" ∈ nsT := List.mem_of_getElem? (i := 17) rfl
theorem ns_18 : Cond.fieldLinkNest "OrphanLogs$Office" (152 : Nat) "OrphanLogs$Clerk" "now" "I" "OrphanLogs" ∈ nsT := List.mem_of_getElem? (i := 18) rfl
theorem ns_19 : Cond.fieldLinkNest "OrphanLogs$Loss" (41 : Nat) "OrphanLogs$Clerk" "written" "I" "OrphanLogs" ∈ nsT := List.mem_of_getElem? (i := 19) rfl
theorem ns_20 : Cond.fieldLinkNest "OrphanLogs$Office" (149 : Nat) "OrphanLogs$Clerk" "written" "I" "OrphanLogs" ∈ nsT := List.mem_of_getElem? (i := 20) rfl
theorem ns_21 : Cond.fieldLinkNest "OrphanLogs$Loss" (52 : Nat) "OrphanLogs$Clerk" "leastKept" "I" "OrphanLogs" ∈ nsT := List.mem_of_getElem? (i := 21) rfl
theorem ns_22 : Cond.fieldLinkNest "OrphanLogs$Office" (158 : Nat) "OrphanLogs$Clerk" "leastKept" "I" "OrphanLogs" ∈ nsT := List.mem_of_getElem? (i := 22) rfl
theorem ns_23 : Cond.fieldLinkNest "OrphanLogs$Office" (210 : Nat) "OrphanLogs$Clerk" "lives" "[I" "OrphanLogs" ∈ nsT := List.mem_of_getElem? (i := 23) rfl
theorem ns_24 : Cond.fieldLinkNest "OrphanLogs$Office" (213 : Nat) "OrphanLogs$Clerk" "sums" "[I" "OrphanLogs" ∈ nsT := List.mem_of_getElem? (i := 24) rfl
theorem ns_25 : Cond.fieldLinkNest "OrphanLogs$Post" (47 : Nat) "OrphanLogs$Clerk" "rests" "LOrphanLogs$Rests;" "OrphanLogs" ∈ nsT := List.mem_of_getElem? (i := 25) rfl
theorem ns_26 : Cond.fieldLinkNest "OrphanLogs$Loss" (55 : Nat) "OrphanLogs$Clerk" "rests" "LOrphanLogs$Rests;" "OrphanLogs" ∈ nsT := List.mem_of_getElem? (i := 26) rfl
theorem ns_27 : Cond.fieldLinkNest "OrphanLogs$Office" (148 : Nat) "OrphanLogs$Clerk" "rests" "LOrphanLogs$Rests;" "OrphanLogs" ∈ nsT := List.mem_of_getElem? (i := 27) rfl
theorem ns_28 : Cond.methodLinkNest "OrphanLogs$Clerk" (46 : Nat) ({ cls := "OrphanLogs", name := "put", desc := "([III)V" } : Jvm.MethodName) "OrphanLogs" ∈ nsT := List.mem_of_getElem? (i := 28) rfl
theorem ns_29 : Cond.methodLinkNest "OrphanLogs$Rests" (31 : Nat) ({ cls := "OrphanLogs", name := "put", desc := "([III)V" } : Jvm.MethodName) "OrphanLogs" ∈ nsT := List.mem_of_getElem? (i := 29) rfl
theorem ns_30 : Cond.fieldLinkNest "OrphanLogs$Loss" (22 : Nat) "OrphanLogs$Office" "n" "I" "OrphanLogs" ∈ nsT := List.mem_of_getElem? (i := 30) rfl
theorem ns_31 : Cond.fieldLinkNest "OrphanLogs" (45 : Nat) "OrphanLogs$Office" "n" "I" "OrphanLogs" ∈ nsT := List.mem_of_getElem? (i := 31) rfl
theorem ns_32 : Cond.fieldLinkNest "OrphanLogs" (205 : Nat) "OrphanLogs$Office" "gone" "I" "OrphanLogs" ∈ nsT := List.mem_of_getElem? (i := 32) rfl
theorem ns_33 : Cond.fieldLinkNest "OrphanLogs" (192 : Nat) "OrphanLogs$Office" "post" "LOrphanLogs$Post;" "OrphanLogs" ∈ nsT := List.mem_of_getElem? (i := 33) rfl
theorem ns_34 : Cond.fieldLinkNest "OrphanLogs" (124 : Nat) "OrphanLogs$Office" "sayings" "LOrphanLogs$Sayings;" "OrphanLogs" ∈ nsT := List.mem_of_getElem? (i := 34) rfl
theorem ns_35 : Cond.methodLinkNest "OrphanLogs" (18 : Nat) ({ cls := "OrphanLogs$Text", name := "<init>", desc := "()V" } : Jvm.MethodName) "OrphanLogs" ∈ nsT := List.mem_of_getElem? (i := 35) rfl
theorem ns_36 : Cond.fieldLinkNest "OrphanLogs$Reader" (39 : Nat) "OrphanLogs$Text" "length" "I" "OrphanLogs" ∈ nsT := List.mem_of_getElem? (i := 36) rfl
theorem ns_37 : Cond.fieldLinkNest "OrphanLogs" (189 : Nat) "OrphanLogs$Text" "length" "I" "OrphanLogs" ∈ nsT := List.mem_of_getElem? (i := 37) rfl
theorem ns_38 : Cond.methodLinkNest "OrphanLogs" (25 : Nat) ({ cls := "OrphanLogs$Reader", name := "<init>", desc := "()V" } : Jvm.MethodName) "OrphanLogs" ∈ nsT := List.mem_of_getElem? (i := 38) rfl
theorem ns_39 : Cond.fieldLinkNest "OrphanLogs" (152 : Nat) "OrphanLogs$Reader" "count" "I" "OrphanLogs" ∈ nsT := List.mem_of_getElem? (i := 39) rfl
theorem ns_40 : Cond.fieldLinkNest "OrphanLogs" (155 : Nat) "OrphanLogs$Reader" "kinds" "[I" "OrphanLogs" ∈ nsT := List.mem_of_getElem? (i := 40) rfl
theorem ns_41 : Cond.fieldLinkNest "OrphanLogs" (163 : Nat) "OrphanLogs$Reader" "firsts" "[I" "OrphanLogs" ∈ nsT := List.mem_of_getElem? (i := 41) rfl
theorem ns_42 : Cond.fieldLinkNest "OrphanLogs" (166 : Nat) "OrphanLogs$Reader" "seconds" "[I" "OrphanLogs" ∈ nsT := List.mem_of_getElem? (i := 42) rfl
theorem ns_43 : Cond.methodLinkNest "OrphanLogs" (32 : Nat) ({ cls := "OrphanLogs$Tally", name := "<init>", desc := "()V" } : Jvm.MethodName) "OrphanLogs" ∈ nsT := List.mem_of_getElem? (i := 43) rfl
theorem ns_44 : Cond.fieldLinkNest "OrphanLogs" (180 : Nat) "OrphanLogs$Tally" "bad" "I" "OrphanLogs" ∈ nsT := List.mem_of_getElem? (i := 44) rfl
theorem ns_45 : Cond.fieldLinkNest "OrphanLogs" (183 : Nat) "OrphanLogs$Tally" "no" "I" "OrphanLogs" ∈ nsT := List.mem_of_getElem? (i := 45) rfl
theorem ns_46 : Cond.fieldLinkNest "OrphanLogs" (186 : Nat) "OrphanLogs$Tally" "full" "I" "OrphanLogs" ∈ nsT := List.mem_of_getElem? (i := 46) rfl
theorem ns_47 : Cond.methodLinkNest "OrphanLogs$Clerk" (54 : Nat) ({ cls := "OrphanLogs", name := "at", desc := "([II)I" } : Jvm.MethodName) "OrphanLogs" ∈ nsT := List.mem_of_getElem? (i := 47) rfl
theorem ns_48 : Cond.methodLinkNest "OrphanLogs$Clerk" (61 : Nat) ({ cls := "OrphanLogs", name := "leftOver", desc := "(JI)I" } : Jvm.MethodName) "OrphanLogs" ∈ nsT := List.mem_of_getElem? (i := 48) rfl
theorem ns_49 : Cond.methodLinkNest "OrphanLogs$Rests" (27 : Nat) ({ cls := "OrphanLogs", name := "at", desc := "([II)I" } : Jvm.MethodName) "OrphanLogs" ∈ nsT := List.mem_of_getElem? (i := 49) rfl
theorem ns_50 : Cond.methodLinkNest "OrphanLogs$Post" (39 : Nat) ({ cls := "OrphanLogs", name := "put", desc := "([III)V" } : Jvm.MethodName) "OrphanLogs" ∈ nsT := List.mem_of_getElem? (i := 50) rfl
theorem ns_51 : Cond.methodLinkNest "OrphanLogs$Post" (55 : Nat) ({ cls := "OrphanLogs", name := "at", desc := "([II)I" } : Jvm.MethodName) "OrphanLogs" ∈ nsT := List.mem_of_getElem? (i := 51) rfl
theorem ns_52 : Cond.methodLinkNest "OrphanLogs$Office" (85 : Nat) ({ cls := "OrphanLogs", name := "at", desc := "([II)I" } : Jvm.MethodName) "OrphanLogs" ∈ nsT := List.mem_of_getElem? (i := 52) rfl
theorem ns_53 : Cond.methodLinkNest "OrphanLogs$Loss" (37 : Nat) ({ cls := "OrphanLogs", name := "put", desc := "([III)V" } : Jvm.MethodName) "OrphanLogs" ∈ nsT := List.mem_of_getElem? (i := 53) rfl
theorem ns_54 : Cond.methodLinkNest "OrphanLogs$Loss" (44 : Nat) ({ cls := "OrphanLogs", name := "at", desc := "([II)I" } : Jvm.MethodName) "OrphanLogs" ∈ nsT := List.mem_of_getElem? (i := 54) rfl
theorem ns_55 : Cond.methodLinkNest "OrphanLogs$Sayings" (35 : Nat) ({ cls := "OrphanLogs", name := "at", desc := "([II)I" } : Jvm.MethodName) "OrphanLogs" ∈ nsT := List.mem_of_getElem? (i := 55) rfl
theorem ns_56 : Cond.methodLinkNest "OrphanLogs$Sayings" (31 : Nat) ({ cls := "OrphanLogs", name := "put", desc := "([III)V" } : Jvm.MethodName) "OrphanLogs" ∈ nsT := List.mem_of_getElem? (i := 56) rfl
theorem ns_57 : Cond.methodLinkNest "OrphanLogs$Office" (222 : Nat) ({ cls := "OrphanLogs", name := "leftOver", desc := "(JI)I" } : Jvm.MethodName) "OrphanLogs" ∈ nsT := List.mem_of_getElem? (i := 57) rfl
theorem ns_58 : Cond.methodLinkNest "OrphanLogs$Text" (19 : Nat) ({ cls := "OrphanLogs", name := "put", desc := "([III)V" } : Jvm.MethodName) "OrphanLogs" ∈ nsT := List.mem_of_getElem? (i := 58) rfl
theorem ns_59 : Cond.methodLinkNest "OrphanLogs$Text" (23 : Nat) ({ cls := "OrphanLogs", name := "at", desc := "([II)I" } : Jvm.MethodName) "OrphanLogs" ∈ nsT := List.mem_of_getElem? (i := 59) rfl
theorem ns_60 : Cond.methodLinkNest "OrphanLogs$Reader" (70 : Nat) ({ cls := "OrphanLogs", name := "within", desc := "(III)Z" } : Jvm.MethodName) "OrphanLogs" ∈ nsT := List.mem_of_getElem? (i := 60) rfl
theorem ns_61 : Cond.methodLinkNest "OrphanLogs$Reader" (62 : Nat) ({ cls := "OrphanLogs", name := "put", desc := "([III)V" } : Jvm.MethodName) "OrphanLogs" ∈ nsT := List.mem_of_getElem? (i := 61) rfl
theorem nk_X0_addPage : yX0_addPage.cls = RX0 ∧ nmOK yX0_addPage 1 := by decide +kernel
theorem nk_X0_begin : yX0_begin.cls = RX0 ∧ nmOK yX0_begin 0 := by decide +kernel
theorem nk_X0_endOf : yX0_endOf.cls = RX0 ∧ nmOK yX0_endOf 1 := by decide +kernel
theorem nk_X0_fallBack : yX0_fallBack.cls = RX0 ∧ nmOK yX0_fallBack 1 := by decide +kernel
theorem nk_X0_hasPage : yX0_hasPage.cls = RX0 ∧ nmOK yX0_hasPage 1 := by decide +kernel
theorem nk_X0_isDeadRest : yX0_isDeadRest.cls = RX0 ∧ nmOK yX0_isDeadRest 2 := by decide +kernel
theorem nk_X0_isFull : yX0_isFull.cls = RX0 ∧ nmOK yX0_isFull 0 := by decide +kernel
theorem nk_X0_restAlsoOn : yX0_restAlsoOn.cls = RX0 ∧ nmOK yX0_restAlsoOn 2 := by decide +kernel
theorem nk_X0_sumNow : yX0_sumNow.cls = RX0 ∧ nmOK yX0_sumNow 0 := by decide +kernel
theorem nk_X0_writeMore : yX0_writeMore.cls = RX0 ∧ nmOK yX0_writeMore 1 := by decide +kernel
theorem nk_X10_bad : yX10_bad.cls = RX10 ∧ nmOK yX10_bad 0 := by decide +kernel
theorem nk_X10_becomesWritten : yX10_becomesWritten.cls = RX10 ∧ nmOK yX10_becomesWritten 2 := by decide +kernel
theorem nk_X10_begins : yX10_begins.cls = RX10 ∧ nmOK yX10_begins 0 := by decide +kernel
theorem nk_X10_clerkOf : yX10_clerkOf.cls = RX10 ∧ nmOK yX10_clerkOf 2 := by decide +kernel
theorem nk_X10_cutsAll : yX10_cutsAll.cls = RX10 ∧ nmOK yX10_cutsAll 0 := by decide +kernel
theorem nk_X10_cutsNow : yX10_cutsNow.cls = RX10 ∧ nmOK yX10_cutsNow 1 := by decide +kernel
theorem nk_X10_doesOne : yX10_doesOne.cls = RX10 ∧ nmOK yX10_doesOne 1 := by decide +kernel
theorem nk_X10_draws : yX10_draws.cls = RX10 ∧ nmOK yX10_draws 3 := by decide +kernel
theorem nk_X10_falls : yX10_falls.cls = RX10 ∧ nmOK yX10_falls 2 := by decide +kernel
theorem nk_X10_firmOf : yX10_firmOf.cls = RX10 ∧ nmOK yX10_firmOf 1 := by decide +kernel
theorem nk_X10_firstDead : yX10_firstDead.cls = RX10 ∧ nmOK yX10_firstDead 1 := by decide +kernel
theorem nk_X10_firstSafe : yX10_firstSafe.cls = RX10 ∧ nmOK yX10_firstSafe 0 := by decide +kernel
theorem nk_X10_full : yX10_full.cls = RX10 ∧ nmOK yX10_full 0 := by decide +kernel
theorem nk_X10_gets : yX10_gets.cls = RX10 ∧ nmOK yX10_gets 2 := by decide +kernel
theorem nk_X10_goesThrough : yX10_goesThrough.cls = RX10 ∧ nmOK yX10_goesThrough 1 := by decide +kernel
theorem nk_X10_heldOf : yX10_heldOf.cls = RX10 ∧ nmOK yX10_heldOf 1 := by decide +kernel
theorem nk_X10_in : nmOK yX10_in 3 := by decide +kernel
theorem nk_X10_isClerk : yX10_isClerk.cls = RX10 ∧ nmOK yX10_isClerk 1 := by decide +kernel
theorem nk_X10_isDead : yX10_isDead.cls = RX10 ∧ nmOK yX10_isDead 3 := by decide +kernel
theorem nk_X10_isDeadLetter : yX10_isDeadLetter.cls = RX10 ∧ nmOK yX10_isDeadLetter 1 := by decide +kernel
theorem nk_X10_isDeadPage : yX10_isDeadPage.cls = RX10 ∧ nmOK yX10_isDeadPage 2 := by decide +kernel
theorem nk_X10_isFigure : yX10_isFigure.cls = RX10 ∧ nmOK yX10_isFigure 1 := by decide +kernel
theorem nk_X10_isFirm : yX10_isFirm.cls = RX10 ∧ nmOK yX10_isFirm 2 := by decide +kernel
theorem nk_X10_isSafe : yX10_isSafe.cls = RX10 ∧ nmOK yX10_isSafe 1 := by decide +kernel
theorem nk_X10_isTooOld : yX10_isTooOld.cls = RX10 ∧ nmOK yX10_isTooOld 0 := by decide +kernel
theorem nk_X10_letterAt : yX10_letterAt.cls = RX10 ∧ nmOK yX10_letterAt 2 := by decide +kernel
theorem nk_X10_lettersTo : yX10_lettersTo.cls = RX10 ∧ nmOK yX10_lettersTo 1 := by decide +kernel
theorem nk_X10_losesNow : yX10_losesNow.cls = RX10 ∧ nmOK yX10_losesNow 1 := by decide +kernel
theorem nk_X10_lossOf : yX10_lossOf.cls = RX10 ∧ nmOK yX10_lossOf 1 := by decide +kernel
theorem nk_X10_manyOf : nmOK yX10_manyOf 1 := by decide +kernel
theorem nk_X10_no : yX10_no.cls = RX10 ∧ nmOK yX10_no 0 := by decide +kernel
theorem nk_X10_pageOf : nmOK yX10_pageOf 2 := by decide +kernel
theorem nk_X10_reads : yX10_reads.cls = RX10 ∧ nmOK yX10_reads 0 := by decide +kernel
theorem nk_X10_releases : yX10_releases.cls = RX10 ∧ nmOK yX10_releases 0 := by decide +kernel
theorem nk_X10_restOf : nmOK yX10_restOf 3 := by decide +kernel
theorem nk_X10_sayingOf : yX10_sayingOf.cls = RX10 ∧ nmOK yX10_sayingOf 2 := by decide +kernel
theorem nk_X10_saysNow : yX10_saysNow.cls = RX10 ∧ nmOK yX10_saysNow 1 := by decide +kernel
theorem nk_X10_sends : yX10_sends.cls = RX10 ∧ nmOK yX10_sends 2 := by decide +kernel
theorem nk_X10_skip : yX10_skip.cls = RX10 ∧ nmOK yX10_skip 0 := by decide +kernel
theorem nk_X10_takeLetter : yX10_takeLetter.cls = RX10 ∧ nmOK yX10_takeLetter 1 := by decide +kernel
theorem nk_X10_takes : yX10_takes.cls = RX10 ∧ nmOK yX10_takes 1 := by decide +kernel
theorem nk_X10_tells : yX10_tells.cls = RX10 ∧ nmOK yX10_tells 1 := by decide +kernel
theorem nk_X10_toldOf : yX10_toldOf.cls = RX10 ∧ nmOK yX10_toldOf 1 := by decide +kernel
theorem nk_X10_tries : yX10_tries.cls = RX10 ∧ nmOK yX10_tries 1 := by decide +kernel
theorem nk_X10_writesPage : yX10_writesPage.cls = RX10 ∧ nmOK yX10_writesPage 2 := by decide +kernel
theorem nk_X1_clerksFelled : yX1_clerksFelled.cls = RX1 ∧ nmOK yX1_clerksFelled 0 := by decide +kernel
theorem nk_X1_fells : yX1_fells.cls = RX1 ∧ nmOK yX1_fells 1 := by decide +kernel
theorem nk_X1_firstDead : yX1_firstDead.cls = RX1 ∧ nmOK yX1_firstDead 2 := by decide +kernel
theorem nk_X1_foresee : yX1_foresee.cls = RX1 ∧ nmOK yX1_foresee 2 := by decide +kernel
theorem nk_X1_keptBy : yX1_keptBy.cls = RX1 ∧ nmOK yX1_keptBy 1 := by decide +kernel
theorem nk_X1_pagesGone : yX1_pagesGone.cls = RX1 ∧ nmOK yX1_pagesGone 0 := by decide +kernel
theorem nk_X2_addSaying : yX2_addSaying.cls = RX2 ∧ nmOK yX2_addSaying 1 := by decide +kernel
theorem nk_X2_addWork : yX2_addWork.cls = RX2 ∧ nmOK yX2_addWork 2 := by decide +kernel
theorem nk_X2_begin : yX2_begin.cls = RX2 ∧ nmOK yX2_begin 1 := by decide +kernel
theorem nk_X2_clerk : yX2_clerk.cls = RX2 ∧ nmOK yX2_clerk 1 := by decide +kernel
theorem nk_X2_cutAll : yX2_cutAll.cls = RX2 ∧ nmOK yX2_cutAll 0 := by decide +kernel
theorem nk_X2_cutPages : yX2_cutPages.cls = RX2 ∧ nmOK yX2_cutPages 1 := by decide +kernel
theorem nk_X2_doDrawn : yX2_doDrawn.cls = RX2 ∧ nmOK yX2_doDrawn 1 := by decide +kernel
theorem nk_X2_firmPage : yX2_firmPage.cls = RX2 ∧ nmOK yX2_firmPage 1 := by decide +kernel
theorem nk_X2_follow : yX2_follow.cls = RX2 ∧ nmOK yX2_follow 3 := by decide +kernel
theorem nk_X2_hasClerk : yX2_hasClerk.cls = RX2 ∧ nmOK yX2_hasClerk 1 := by decide +kernel
theorem nk_X2_isDeadLetter : yX2_isDeadLetter.cls = RX2 ∧ nmOK yX2_isDeadLetter 1 := by decide +kernel
theorem nk_X2_isSafe : yX2_isSafe.cls = RX2 ∧ nmOK yX2_isSafe 1 := by decide +kernel
theorem nk_X2_isWrittenBelow : yX2_isWrittenBelow.cls = RX2 ∧ nmOK yX2_isWrittenBelow 2 := by decide +kernel
theorem nk_X2_lose : yX2_lose.cls = RX2 ∧ nmOK yX2_lose 1 := by decide +kernel
theorem nk_X2_nextSafe : yX2_nextSafe.cls = RX2 ∧ nmOK yX2_nextSafe 0 := by decide +kernel
theorem nk_X2_releaseSafe : yX2_releaseSafe.cls = RX2 ∧ nmOK yX2_releaseSafe 0 := by decide +kernel
theorem nk_X2_sendLetter : yX2_sendLetter.cls = RX2 ∧ nmOK yX2_sendLetter 2 := by decide +kernel
theorem nk_X2_sweepLetters : yX2_sweepLetters.cls = RX2 ∧ nmOK yX2_sweepLetters 0 := by decide +kernel
theorem nk_X2_takeLetter : yX2_takeLetter.cls = RX2 ∧ nmOK yX2_takeLetter 2 := by decide +kernel
theorem nk_X2_tellClerk : yX2_tellClerk.cls = RX2 ∧ nmOK yX2_tellClerk 2 := by decide +kernel
theorem nk_X2_tellLetter : yX2_tellLetter.cls = RX2 ∧ nmOK yX2_tellLetter 3 := by decide +kernel
theorem nk_X2_tellLoss : yX2_tellLoss.cls = RX2 ∧ nmOK yX2_tellLoss 2 := by decide +kernel
theorem nk_X2_tellPage : yX2_tellPage.cls = RX2 ∧ nmOK yX2_tellPage 4 := by decide +kernel
theorem nk_X2_tellSaying : yX2_tellSaying.cls = RX2 ∧ nmOK yX2_tellSaying 2 := by decide +kernel
theorem nk_X2_worstClerk : yX2_worstClerk.cls = RX2 ∧ nmOK yX2_worstClerk 0 := by decide +kernel
theorem nk_X2_writePages : yX2_writePages.cls = RX2 ∧ nmOK yX2_writePages 2 := by decide +kernel
theorem nk_X3_add : yX3_add.cls = RX3 ∧ nmOK yX3_add 2 := by decide +kernel
theorem nk_X3_countTo : yX3_countTo.cls = RX3 ∧ nmOK yX3_countTo 1 := by decide +kernel
theorem nk_X3_find : yX3_find.cls = RX3 ∧ nmOK yX3_find 2 := by decide +kernel
theorem nk_X3_remove : yX3_remove.cls = RX3 ∧ nmOK yX3_remove 1 := by decide +kernel
theorem nk_X4_isFigure : nmOK yX4_isFigure 1 := by decide +kernel
theorem nk_X4_mostSecond : nmOK yX4_mostSecond 2 := by decide +kernel
theorem nk_X4_numbersOf : nmOK yX4_numbersOf 1 := by decide +kernel
theorem nk_X4_readAll : yX4_readAll.cls = RX4 ∧ nmOK yX4_readAll 2 := by decide +kernel
theorem nk_X4_readNumber : yX4_readNumber.cls = RX4 ∧ nmOK yX4_readNumber 3 := by decide +kernel
theorem nk_X4_readOrder : yX4_readOrder.cls = RX4 ∧ nmOK yX4_readOrder 2 := by decide +kernel
theorem nk_X4_readSemicolon : yX4_readSemicolon.cls = RX4 ∧ nmOK yX4_readSemicolon 1 := by decide +kernel
theorem nk_X4_skipBlanks : yX4_skipBlanks.cls = RX4 ∧ nmOK yX4_skipBlanks 1 := by decide +kernel
theorem nk_X5_copyRow : yX5_copyRow.cls = RX5 ∧ nmOK yX5_copyRow 3 := by decide +kernel
theorem nk_X5_lifeOf : yX5_lifeOf.cls = RX5 ∧ nmOK yX5_lifeOf 2 := by decide +kernel
theorem nk_X5_pageOf : yX5_pageOf.cls = RX5 ∧ nmOK yX5_pageOf 2 := by decide +kernel
theorem nk_X5_raise : yX5_raise.cls = RX5 ∧ nmOK yX5_raise 4 := by decide +kernel
theorem nk_X5_set : yX5_set.cls = RX5 ∧ nmOK yX5_set 4 := by decide +kernel
theorem nk_X6_add : yX6_add.cls = RX6 ∧ nmOK yX6_add 2 := by decide +kernel
theorem nk_X6_begin : yX6_begin.cls = RX6 ∧ nmOK yX6_begin 0 := by decide +kernel
theorem nk_X6_countHeld : yX6_countHeld.cls = RX6 ∧ nmOK yX6_countHeld 0 := by decide +kernel
theorem nk_X6_countHeldBehind : yX6_countHeldBehind.cls = RX6 ∧ nmOK yX6_countHeldBehind 2 := by decide +kernel
theorem nk_X6_countHeldBy : yX6_countHeldBy.cls = RX6 ∧ nmOK yX6_countHeldBy 1 := by decide +kernel
theorem nk_X6_goesAhead : yX6_goesAhead.cls = RX6 ∧ nmOK yX6_goesAhead 2 := by decide +kernel
theorem nk_X6_isHeld : yX6_isHeld.cls = RX6 ∧ nmOK yX6_isHeld 1 := by decide +kernel
theorem nk_X6_isHeldBehind : yX6_isHeldBehind.cls = RX6 ∧ nmOK yX6_isHeldBehind 3 := by decide +kernel
theorem nk_X6_loseBehind : yX6_loseBehind.cls = RX6 ∧ nmOK yX6_loseBehind 2 := by decide +kernel
theorem nk_X6_markReleased : yX6_markReleased.cls = RX6 ∧ nmOK yX6_markReleased 1 := by decide +kernel
theorem nk_X6_releasedAt : yX6_releasedAt.cls = RX6 ∧ nmOK yX6_releasedAt 1 := by decide +kernel
theorem nk_X7_counted : yX7_counted.cls = RX7 ∧ nmOK yX7_counted 1 := by decide +kernel
theorem nk_X8_add : yX8_add.cls = RX8 ∧ nmOK yX8_add 1 := by decide +kernel
theorem nk_X8_byteAt : yX8_byteAt.cls = RX8 ∧ nmOK yX8_byteAt 1 := by decide +kernel
theorem nk_X8_empty : yX8_empty.cls = RX8 ∧ nmOK yX8_empty 0 := by decide +kernel
theorem nk_X9_at : nmOK yX9_at 2 := by decide +kernel
theorem nk_X9_isDone : nmOK yX9_isDone 1 := by decide +kernel
theorem nk_X9_leftOver : nmOK yX9_leftOver 2 := by decide +kernel
theorem nk_X9_put : nmOK yX9_put 3 := by decide +kernel
theorem nk_X9_tell : yX9_tell.cls = RX9 ∧ nmOK yX9_tell 1 := by decide +kernel
theorem nk_X9_within : nmOK yX9_within 3 := by decide +kernel
theorem gd_X0_50 : GoodIn gT (wsV RX0 50 RX5 yX5_set (wsOf yX5_set cX5_set 5 none)) := gdV tw1_190 tw1_191 tw1_192 tw1_4 tw1_193
theorem gd_X5_35 : GoodIn gT (wsV RX5 35 RX5 yX5_lifeOf (wsOf yX5_lifeOf cX5_lifeOf 3 (some .int))) := gdV tw2_103 tw2_104 tw2_105 tw1_4 tw2_106
theorem gd_X5_38 : GoodIn gT (wsV RX5 38 RX5 yX5_pageOf (wsOf yX5_pageOf cX5_pageOf 3 (some .int))) := gdV tw2_108 tw2_109 tw2_110 tw1_4 tw2_111
theorem gd_X5_41 : GoodIn gT (wsV RX5 41 RX5 yX5_set (wsOf yX5_set cX5_set 5 none)) := gdV tw2_112 tw1_191 tw1_192 tw1_4 tw1_193
theorem gd_X0_65 : GoodIn gT (wsV RX0 65 RX5 yX5_copyRow (wsOf yX5_copyRow cX5_copyRow 5 none)) := gdV tw2_99 tw2_100 tw2_101 tw1_4 tw2_102
theorem gd_X0_69 : GoodIn gT (wsV RX0 69 RX5 yX5_lifeOf (wsOf yX5_lifeOf cX5_lifeOf 3 (some .int))) := gdV tw2_160 tw2_104 tw2_105 tw1_4 tw2_106
theorem gd_X0_73 : GoodIn gT (wsV RX0 73 RX5 yX5_pageOf (wsOf yX5_pageOf cX5_pageOf 3 (some .int))) := gdV tw2_161 tw2_109 tw2_110 tw1_4 tw2_111
theorem gd_X0_76 : GoodIn gT (wsV RX0 76 RX5 yX5_raise (wsOf yX5_raise cX5_raise 7 none)) := gdV tw2_162 tw2_163 tw2_164 tw1_4 tw2_165
theorem gd_X1_59 : GoodIn gT (wsV RX1 59 RX5 yX5_pageOf (wsOf yX5_pageOf cX5_pageOf 3 (some .int))) := gdV tw2_202 tw2_109 tw2_110 tw1_4 tw2_111
theorem gd_X1_28 : GoodIn gT (wsV RX1 28 RX2 yX2_clerk (wsOf yX2_clerk cX2_clerk 2 (some (.object "OrphanLogs$Clerk")))) := gdV tw2_195 tw2_80 tw2_81 tw1_2 tw2_82
theorem gd_X1_48 : GoodIn gT (wsV RX1 48 RX1 yX1_firstDead (wsOf yX1_firstDead cX1_firstDead 5 (some .int))) := gdV tw2_198 tw2_200 tws_1 tw1_7 tw2_201
theorem gd_X1_65 : GoodIn gT (wsV RX1 65 RX1 yX1_fells (wsOf yX1_fells cX1_fells 2 (some .boolean))) := gdV tw3_162 tw2_204 tw2_205 tw1_7 tw2_206
theorem gd_X2_54 : GoodIn gT (wsV RX2 54 RX6 yX6_begin (wsOf yX6_begin cX6_begin 1 none)) := gdV tw1_179 tw1_180 tw1_181 tw1_6 tw1_182
theorem gd_X2_56 : GoodIn gT (wsV RX2 56 RX0 yX0_begin (wsOf yX0_begin cX0_begin 2 none)) := gdV tw1_183 tw1_184 tw1_185 tw1_8 tw1_186
theorem gd_X2_57 : GoodIn gT (wsV RX2 57 RX2 yX2_clerk (wsOf yX2_clerk cX2_clerk 2 (some (.object "OrphanLogs$Clerk")))) := gdV tw2_79 tw2_80 tw2_81 tw1_2 tw2_82
theorem gd_X2_61 : GoodIn gT (wsV RX2 61 RX0 yX0_isFull (wsOf yX0_isFull cX0_isFull 1 (some .boolean))) := gdV tw2_83 tw2_84 tw2_85 tw1_8 tw2_86
theorem gd_X2_65 : GoodIn gT (wsV RX2 65 RX0 yX0_addPage (wsOf yX0_addPage cX0_addPage 5 (some .int))) := gdV tw2_87 tw2_88 tw2_89 tw1_8 tw2_90
theorem gd_X3_43 : GoodIn gT (wsV RX3 43 RX0 yX0_sumNow (wsOf yX0_sumNow cX0_sumNow 1 (some .int))) := gdV tw2_126 tw2_127 tw2_128 tw1_8 tw2_129
theorem gd_X3_51 : GoodIn gT (wsV RX3 51 RX5 yX5_copyRow (wsOf yX5_copyRow cX5_copyRow 5 none)) := gdV tw2_130 tw2_100 tw2_101 tw1_4 tw2_102
theorem gd_X2_69 : GoodIn gT (wsV RX2 69 RX3 yX3_add (wsOf yX3_add cX3_add 3 none)) := gdV tw2_121 tw2_122 tw2_123 tw1_3 tw2_124
theorem gd_X2_100 : GoodIn gT (wsV RX2 100 RX5 yX5_lifeOf (wsOf yX5_lifeOf cX5_lifeOf 3 (some .int))) := gdV tw2_148 tw2_104 tw2_105 tw1_4 tw2_106
theorem gd_X2_105 : GoodIn gT (wsV RX2 105 RX5 yX5_pageOf (wsOf yX5_pageOf cX5_pageOf 3 (some .int))) := gdV tw2_149 tw2_109 tw2_110 tw1_4 tw2_111
theorem gd_X2_108 : GoodIn gT (wsV RX2 108 RX0 yX0_isDeadRest (wsOf yX0_isDeadRest cX0_isDeadRest 4 (some .boolean))) := gdV tw2_150 tw2_151 tw2_152 tw1_8 tw2_153
theorem gd_X2_73 : GoodIn gT (wsV RX2 73 RX3 yX3_find (wsOf yX3_find cX3_find 5 (some .int))) := gdV tw2_139 tw2_140 tw2_141 tw1_3 tw2_142
theorem gd_X2_77 : GoodIn gT (wsV RX2 77 RX2 yX2_isDeadLetter (wsOf yX2_isDeadLetter cX2_isDeadLetter 3 (some .boolean))) := gdV tw2_144 tw2_146 tws_0 tw1_2 tw2_147
theorem gd_X2_97 : GoodIn gT (wsV RX2 97 RX3 yX3_remove (wsOf yX3_remove cX3_remove 3 none)) := gdV tw2_166 tw2_167 tw2_168 tw1_3 tw2_169
theorem gd_X2_93 : GoodIn gT (wsV RX2 93 RX0 yX0_restAlsoOn (wsOf yX0_restAlsoOn cX0_restAlsoOn 4 none)) := gdV tw2_156 tw2_157 tw2_158 tw1_8 tw2_159
theorem gd_X2_112 : GoodIn gT (wsV RX2 112 RX0 yX0_writeMore (wsOf yX0_writeMore cX0_writeMore 2 (some .int))) := gdV tw2_178 tw2_179 tw2_180 tw1_8 tw2_181
theorem gd_X6_39 : GoodIn gT (wsV RX6 39 RX6 yX6_isHeld (wsOf yX6_isHeld cX6_isHeld 2 (some .boolean))) := gdV tw2_223 tw2_224 tw2_225 tw1_6 tw2_226
theorem gd_X6_43 : GoodIn gT (wsV RX6 43 RX6 yX6_isHeldBehind (wsOf yX6_isHeldBehind cX6_isHeldBehind 4 (some .boolean))) := gdV tw2_219 tw2_221 tws_2 tw1_6 tw2_222
theorem gd_X2_118 : GoodIn gT (wsV RX2 118 RX1 yX1_foresee (wsOf yX1_foresee cX1_foresee 6 none)) := gdV tw2_191 tw2_192 tw2_193 tw1_7 tw2_194
theorem gd_X2_135 : GoodIn gT (wsV RX2 135 RX1 yX1_pagesGone (wsOf yX1_pagesGone cX1_pagesGone 3 (some .int))) := gdV tw2_229 tw2_230 tw2_231 tw1_7 tw2_232
theorem gd_X2_122 : GoodIn gT (wsV RX2 122 RX1 yX1_fells (wsOf yX1_fells cX1_fells 2 (some .boolean))) := gdV tw2_203 tw2_204 tw2_205 tw1_7 tw2_206
theorem gd_X2_125 : GoodIn gT (wsV RX2 125 RX1 yX1_keptBy (wsOf yX1_keptBy cX1_keptBy 2 (some .int))) := gdV tw2_207 tw2_208 tw2_209 tw1_7 tw2_210
theorem gd_X2_128 : GoodIn gT (wsV RX2 128 RX0 yX0_fallBack (wsOf yX0_fallBack cX0_fallBack 2 none)) := gdV tw2_211 tw2_212 tw2_213 tw1_8 tw2_214
theorem gd_X2_131 : GoodIn gT (wsV RX2 131 RX6 yX6_loseBehind (wsOf yX6_loseBehind cX6_loseBehind 4 none)) := gdV tw2_215 tw2_216 tw2_217 tw1_6 tw2_218
theorem gd_X2_142 : GoodIn gT (wsV RX2 142 RX6 yX6_countHeldBehind (wsOf yX6_countHeldBehind cX6_countHeldBehind 5 (some .int))) := gdV tw3_163 tw3_164 tw3_165 tw1_6 tw3_166
theorem gd_X2_139 : GoodIn gT (wsV RX2 139 RX1 yX1_clerksFelled (wsOf yX1_clerksFelled cX1_clerksFelled 3 (some .int))) := gdV tw3_158 tw3_159 tw3_160 tw1_7 tw3_161
theorem gd_X2_145 : GoodIn gT (wsV RX2 145 RX2 yX2_tellLoss (wsOf yX2_tellLoss cX2_tellLoss 5 (some .int))) := gdV tw3_175 tw3_155 tw3_156 tw1_2 tw3_157
theorem gd_X2_155 : GoodIn gT (wsV RX2 155 RX2 yX2_isWrittenBelow (wsOf yX2_isWrittenBelow cX2_isWrittenBelow 4 (some .boolean))) := gdV tw3_40 tw3_42 tws_4 tw1_2 tw3_43
theorem gd_X2_161 : GoodIn gT (wsV RX2 161 RX2 yX2_firmPage (wsOf yX2_firmPage cX2_firmPage 3 (some .int))) := gdV tw3_36 tw3_38 tws_3 tw1_2 tw3_39
theorem gd_X2_169 : GoodIn gT (wsV RX2 169 RX2 yX2_cutPages (wsOf yX2_cutPages cX2_cutPages 3 (some .int))) := gdV tw4_4 tw3_146 tw3_147 tw1_2 tw3_148
theorem gd_X2_173 : GoodIn gT (wsV RX2 173 RX6 yX6_add (wsOf yX6_add cX6_add 3 none)) := gdV tw3_17 tw3_18 tw3_19 tw1_6 tw3_20
theorem gd_X2_175 : GoodIn gT (wsV RX2 175 RX6 yX6_countHeld (wsOf yX6_countHeld cX6_countHeld 3 (some .int))) := gdV tw3_21 tw3_22 tw3_23 tw1_6 tw3_24
theorem gd_X2_178 : GoodIn gT (wsV RX2 178 RX6 yX6_isHeld (wsOf yX6_isHeld cX6_isHeld 2 (some .boolean))) := gdV tw3_116 tw2_224 tw2_225 tw1_6 tw2_226
theorem gd_X2_192 : GoodIn gT (wsV RX2 192 RX2 yX2_isSafe (wsOf yX2_isSafe cX2_isSafe 2 (some .boolean))) := gdV tw3_112 tw3_114 tws_6 tw1_2 tw3_115
theorem gd_X2_195 : GoodIn gT (wsV RX2 195 RX6 yX6_goesAhead (wsOf yX6_goesAhead cX6_goesAhead 3 (some .boolean))) := gdV tw3_117 tw3_118 tw3_119 tw1_6 tw3_120
theorem gd_X2_186 : GoodIn gT (wsV RX2 186 RX2 yX2_nextSafe (wsOf yX2_nextSafe cX2_nextSafe 3 (some .int))) := gdV tw3_108 tw3_110 tws_5 tw1_2 tw3_111
theorem gd_X2_189 : GoodIn gT (wsV RX2 189 RX6 yX6_markReleased (wsOf yX6_markReleased cX6_markReleased 2 none)) := gdV tw3_121 tw3_122 tw3_123 tw1_6 tw3_124
theorem gd_X2_198 : GoodIn gT (wsV RX2 198 RX0 yX0_sumNow (wsOf yX0_sumNow cX0_sumNow 1 (some .int))) := gdV tw3_44 tw2_127 tw2_128 tw1_8 tw2_129
theorem gd_X2_201 : GoodIn gT (wsV RX2 201 RX3 yX3_countTo (wsOf yX3_countTo cX3_countTo 4 (some .int))) := gdV tw3_45 tw3_46 tw3_47 tw1_3 tw3_48
theorem gd_X2_204 : GoodIn gT (wsV RX2 204 RX6 yX6_countHeldBy (wsOf yX6_countHeldBy cX6_countHeldBy 4 (some .int))) := gdV tw3_49 tw3_50 tw3_51 tw1_6 tw3_52
theorem gd_X2_207 : GoodIn gT (wsV RX2 207 RX0 yX0_hasPage (wsOf yX0_hasPage cX0_hasPage 2 (some .boolean))) := gdV tw3_61 tw3_62 tw3_63 tw1_8 tw3_64
theorem gd_X2_230 : GoodIn gT (wsV RX2 230 RX2 yX2_addWork (wsOf yX2_addWork cX2_addWork 3 (some .int))) := gdV tw3_9 tw2_76 tw2_77 tw1_2 tw2_78
theorem gd_X2_233 : GoodIn gT (wsV RX2 233 RX2 yX2_sendLetter (wsOf yX2_sendLetter cX2_sendLetter 3 (some .int))) := gdV tw3_10 tw2_118 tw2_119 tw1_2 tw2_120
theorem gd_X2_236 : GoodIn gT (wsV RX2 236 RX2 yX2_takeLetter (wsOf yX2_takeLetter cX2_takeLetter 6 (some .int))) := gdV tw3_11 tw2_136 tw2_137 tw1_2 tw2_138
theorem gd_X2_239 : GoodIn gT (wsV RX2 239 RX2 yX2_writePages (wsOf yX2_writePages cX2_writePages 3 (some .int))) := gdV tw3_12 tw2_175 tw2_176 tw1_2 tw2_177
theorem gd_X2_242 : GoodIn gT (wsV RX2 242 RX2 yX2_addSaying (wsOf yX2_addSaying cX2_addSaying 2 (some .int))) := gdV tw3_13 tw3_14 tw3_15 tw1_2 tw3_16
theorem gd_X2_248 : GoodIn gT (wsV RX2 248 RX2 yX2_releaseSafe (wsOf yX2_releaseSafe cX2_releaseSafe 4 (some .int))) := gdV tw3_239 tw3_105 tw3_106 tw1_2 tw3_107
theorem gd_X2_245 : GoodIn gT (wsV RX2 245 RX2 yX2_lose (wsOf yX2_lose cX2_lose 3 (some .int))) := gdV tw3_238 tw2_188 tw2_189 tw1_2 tw2_190
theorem gd_X2_251 : GoodIn gT (wsV RX2 251 RX2 yX2_cutAll (wsOf yX2_cutAll cX2_cutAll 3 (some .int))) := gdV tw4_0 tw4_2 tws_11 tw1_2 tw4_3
theorem gd_X4_44 : GoodIn gT (wsV RX4 44 RX8 yX8_byteAt (wsOf yX8_byteAt cX8_byteAt 2 (some .int))) := gdV tw3_209 tw3_210 tw3_211 tw1_9 tw3_212
theorem gd_X4_35 : GoodIn gT (wsV RX4 35 RX4 yX4_skipBlanks (wsOf yX4_skipBlanks cX4_skipBlanks 3 none)) := gdV tw3_205 tw3_207 tws_8 tw1_10 tw3_208
theorem gd_X4_66 : GoodIn gT (va_wsS RX4 66 yX4_isFigure (wsOf yX4_isFigure cX4_isFigure 1 (some .boolean))) := gdS tw3_221 tw3_222 tw1_10 tw3_223
theorem gd_X4_48 : GoodIn gT (va_wsS RX4 48 yX4_numbersOf (wsOf yX4_numbersOf cX4_numbersOf 1 (some .int))) := gdS tw3_214 tw3_215 tw1_10 tw3_216
theorem gd_X4_59 : GoodIn gT (wsV RX4 59 RX4 yX4_readSemicolon (wsOf yX4_readSemicolon cX4_readSemicolon 2 none)) := gdV tw3_228 tw3_230 tws_10 tw1_10 tw3_231
theorem gd_X4_55 : GoodIn gT (va_wsS RX4 55 yX4_mostSecond (wsOf yX4_mostSecond cX4_mostSecond 2 (some .int))) := gdS tw3_225 tw3_226 tw1_10 tw3_227
theorem gd_X4_51 : GoodIn gT (wsV RX4 51 RX4 yX4_readNumber (wsOf yX4_readNumber cX4_readNumber 8 (some .int))) := gdV tw3_217 tw3_219 tws_9 tw1_10 tw3_220
theorem gd_X4_31 : GoodIn gT (wsV RX4 31 RX4 yX4_readOrder (wsOf yX4_readOrder cX4_readOrder 7 none)) := gdV tw3_201 tw3_203 tws_7 tw1_10 tw3_204
theorem gd_X9_37 : GoodIn gT (va_wsS RX9 37 yX9_within (wsOf yX9_within cX9_within 3 (some .boolean))) := gdS tw2_59 tw2_60 tw1_1 tw2_61
theorem gd_X9_49 : GoodIn gT (wsV RX9 49 RX2 yX2_begin (wsOf yX2_begin cX2_begin 3 none)) := gdV tw2_66 tw1_176 tw1_177 tw1_2 tw1_178
theorem gd_X9_41 : GoodIn gT (wsV RX9 41 RX7 yX7_counted (wsOf yX7_counted cX7_counted 2 (some .int))) := gdV tw2_62 tw2_63 tw2_64 tw1_11 tw2_65
theorem gd_X9_53 : GoodIn gT (wsV RX9 53 RX2 yX2_hasClerk (wsOf yX2_hasClerk cX2_hasClerk 2 (some .boolean))) := gdV tw2_71 tw2_72 tw2_73 tw1_2 tw2_74
theorem gd_X9_57 : GoodIn gT (wsV RX9 57 RX2 yX2_addWork (wsOf yX2_addWork cX2_addWork 3 (some .int))) := gdV tw2_75 tw2_76 tw2_77 tw1_2 tw2_78
theorem gd_X9_61 : GoodIn gT (wsV RX9 61 RX2 yX2_sendLetter (wsOf yX2_sendLetter cX2_sendLetter 3 (some .int))) := gdV tw2_117 tw2_118 tw2_119 tw1_2 tw2_120
theorem gd_X9_64 : GoodIn gT (wsV RX9 64 RX2 yX2_takeLetter (wsOf yX2_takeLetter cX2_takeLetter 6 (some .int))) := gdV tw2_135 tw2_136 tw2_137 tw1_2 tw2_138
theorem gd_X9_67 : GoodIn gT (wsV RX9 67 RX2 yX2_writePages (wsOf yX2_writePages cX2_writePages 3 (some .int))) := gdV tw2_174 tw2_175 tw2_176 tw1_2 tw2_177
theorem gd_X9_70 : GoodIn gT (wsV RX9 70 RX2 yX2_lose (wsOf yX2_lose cX2_lose 3 (some .int))) := gdV tw2_187 tw2_188 tw2_189 tw1_2 tw2_190
theorem gd_X9_80 : GoodIn gT (wsV RX9 80 RX2 yX2_doDrawn (wsOf yX2_doDrawn cX2_doDrawn 4 (some .int))) := gdV tw3_1 tw3_2 tw3_3 tw1_2 tw3_4
theorem gd_X9_84 : GoodIn gT (va_wsS RX9 84 yX9_isDone (wsOf yX9_isDone cX9_isDone 1 (some .boolean))) := gdS tw3_25 tw3_26 tw1_1 tw3_27
theorem gd_X9_87 : GoodIn gT (wsV RX9 87 RX2 yX2_tellClerk (wsOf yX2_tellClerk cX2_tellClerk 4 (some .int))) := gdV tw3_32 tw3_33 tw3_34 tw1_2 tw3_35
theorem gd_X9_90 : GoodIn gT (wsV RX9 90 RX2 yX2_tellPage (wsOf yX2_tellPage cX2_tellPage 6 (some .int))) := gdV tw3_57 tw3_58 tw3_59 tw1_2 tw3_60
theorem gd_X9_94 : GoodIn gT (wsV RX9 94 RX2 yX2_clerk (wsOf yX2_clerk cX2_clerk 2 (some (.object "OrphanLogs$Clerk")))) := gdV tw3_69 tw2_80 tw2_81 tw1_2 tw2_82
theorem gd_X9_98 : GoodIn gT (wsV RX9 98 RX0 yX0_isDeadRest (wsOf yX0_isDeadRest cX0_isDeadRest 4 (some .boolean))) := gdV tw3_70 tw2_151 tw2_152 tw1_8 tw2_153
theorem gd_X9_104 : GoodIn gT (wsV RX9 104 RX0 yX0_endOf (wsOf yX0_endOf cX0_endOf 2 (some .int))) := gdV tw3_75 tw3_76 tw3_77 tw1_8 tw3_78
theorem gd_X9_107 : GoodIn gT (wsV RX9 107 RX2 yX2_tellLetter (wsOf yX2_tellLetter cX2_tellLetter 6 (some .int))) := gdV tw3_83 tw3_84 tw3_85 tw1_2 tw3_86
theorem gd_X9_111 : GoodIn gT (wsV RX9 111 RX2 yX2_sweepLetters (wsOf yX2_sweepLetters cX2_sweepLetters 3 (some .int))) := gdV tw3_91 tw3_92 tw3_93 tw1_2 tw3_94
theorem gd_X9_115 : GoodIn gT (wsV RX9 115 RX2 yX2_addSaying (wsOf yX2_addSaying cX2_addSaying 2 (some .int))) := gdV tw3_99 tw3_14 tw3_15 tw1_2 tw3_16
theorem gd_X9_118 : GoodIn gT (wsV RX9 118 RX2 yX2_releaseSafe (wsOf yX2_releaseSafe cX2_releaseSafe 4 (some .int))) := gdV tw3_104 tw3_105 tw3_106 tw1_2 tw3_107
theorem gd_X9_121 : GoodIn gT (wsV RX9 121 RX2 yX2_tellSaying (wsOf yX2_tellSaying cX2_tellSaying 3 (some .int))) := gdV tw3_129 tw3_130 tw3_131 tw1_2 tw3_132
theorem gd_X9_128 : GoodIn gT (wsV RX9 128 RX6 yX6_releasedAt (wsOf yX6_releasedAt cX6_releasedAt 2 (some .int))) := gdV tw3_137 tw3_138 tw3_139 tw1_6 tw3_140
theorem gd_X9_133 : GoodIn gT (wsV RX9 133 RX2 yX2_cutPages (wsOf yX2_cutPages cX2_cutPages 3 (some .int))) := gdV tw3_145 tw3_146 tw3_147 tw1_2 tw3_148
theorem gd_X9_136 : GoodIn gT (wsV RX9 136 RX2 yX2_tellLoss (wsOf yX2_tellLoss cX2_tellLoss 5 (some .int))) := gdV tw3_154 tw3_155 tw3_156 tw1_2 tw3_157
theorem gd_X9_139 : GoodIn gT (wsV RX9 139 RX2 yX2_worstClerk (wsOf yX2_worstClerk cX2_worstClerk 5 (some .int))) := gdV tw3_171 tw3_172 tw3_173 tw1_2 tw3_174
theorem gd_X9_142 : GoodIn gT (wsV RX9 142 RX8 yX8_add (wsOf yX8_add cX8_add 2 (some .int))) := gdV tw3_180 tw3_181 tw3_182 tw1_9 tw3_183
theorem gd_X9_145 : GoodIn gT (wsV RX9 145 RX8 yX8_empty (wsOf yX8_empty cX8_empty 2 (some .int))) := gdV tw3_189 tw3_190 tw3_191 tw1_9 tw3_192
theorem gd_X9_148 : GoodIn gT (wsV RX9 148 RX4 yX4_readAll (wsOf yX4_readAll cX4_readAll 4 (some .int))) := gdV tw3_197 tw3_198 tw3_199 tw1_10 tw3_200
theorem gd_X9_159 : GoodIn gT (va_wsS RX9 159 yX9_at (wsOf yX9_at cX9_at 2 (some .int))) := gdS tw3_233 tw2_92 tw1_1 tw2_93
theorem gd_X9_169 : GoodIn gT (wsV RX9 169 RX2 yX2_follow (wsOf yX2_follow cX2_follow 4 (some .int))) := gdV tw3_234 tw3_235 tw3_236 tw1_2 tw3_237
theorem gd_X9_199 : GoodIn gT (wsV RX9 199 RX6 yX6_countHeld (wsOf yX6_countHeld cX6_countHeld 3 (some .int))) := gdV tw4_13 tw3_22 tw3_23 tw1_6 tw3_24
theorem gd_X9_172 : GoodIn gT (wsV RX9 172 RX9 yX9_tell (wsOf yX9_tell cX9_tell 2 (some .int))) := gdV tw4_9 tw4_11 tws_12 tw1_1 tw4_12
theorem gd_X10_59 : GoodIn gT (va_wsS RX10 59 yX10_in (wsOf yX10_in cX10_in 6 (some .boolean))) := gdS tw4_111 tw4_112 tw1_12 tw4_113
theorem gd_X10_63 : GoodIn gT (va_wsS RX10 63 yX10_pageOf (wsOf yX10_pageOf cX10_pageOf 2 (some .int))) := gdS tw4_122 tw4_123 tw1_12 tw4_124
theorem gd_X10_67 : GoodIn gT (va_wsS RX10 67 yX10_restOf (wsOf yX10_restOf cX10_restOf 3 (some .int))) := gdS tw4_125 tw4_126 tw1_12 tw4_127
theorem gd_X10_91 : GoodIn gT (wsV RX10 91 RX10 yX10_begins (wsOf yX10_begins cX10_begins 3 none)) := gdV tw4_118 tw4_120 tws_14 tw1_12 tw4_121
theorem gd_X10_87 : GoodIn gT (wsV RX10 87 RX10 yX10_bad (wsOf yX10_bad cX10_bad 1 (some .int))) := gdV tw4_114 tw4_116 tws_13 tw1_12 tw4_117
theorem gd_X10_98 : GoodIn gT (wsV RX10 98 RX10 yX10_isClerk (wsOf yX10_isClerk cX10_isClerk 2 (some .boolean))) := gdV tw4_132 tw4_134 tws_15 tw1_12 tw4_135
theorem gd_X10_104 : GoodIn gT (wsV RX10 104 RX10 yX10_writesPage (wsOf yX10_writesPage cX10_writesPage 5 (some .int))) := gdV tw4_137 tw4_139 tws_16 tw1_12 tw4_140
theorem gd_X10_107 : GoodIn gT (wsV RX10 107 RX10 yX10_tells (wsOf yX10_tells cX10_tells 2 (some .int))) := gdV tw4_143 tw4_145 tws_17 tw1_12 tw4_146
theorem gd_X10_111 : GoodIn gT (wsV RX10 111 RX10 yX10_sends (wsOf yX10_sends cX10_sends 5 (some .int))) := gdV tw4_151 tw4_153 tws_18 tw1_12 tw4_154
theorem gd_X10_114 : GoodIn gT (wsV RX10 114 RX10 yX10_isDead (wsOf yX10_isDead cX10_isDead 6 (some .boolean))) := gdV tw4_171 tw4_173 tws_22 tw1_12 tw4_174
theorem gd_X10_118 : GoodIn gT (wsV RX10 118 RX10 yX10_letterAt (wsOf yX10_letterAt cX10_letterAt 5 (some .int))) := gdV tw4_163 tw4_165 tws_20 tw1_12 tw4_166
theorem gd_X10_121 : GoodIn gT (wsV RX10 121 RX10 yX10_isDeadLetter (wsOf yX10_isDeadLetter cX10_isDeadLetter 4 (some .boolean))) := gdV tw4_167 tw4_169 tws_21 tw1_12 tw4_170
theorem gd_X10_124 : GoodIn gT (wsV RX10 124 RX10 yX10_takeLetter (wsOf yX10_takeLetter cX10_takeLetter 3 none)) := gdV tw4_175 tw4_177 tws_23 tw1_12 tw4_178
theorem gd_X10_128 : GoodIn gT (wsV RX10 128 RX10 yX10_gets (wsOf yX10_gets cX10_gets 10 (some .int))) := gdV tw4_159 tw4_161 tws_19 tw1_12 tw4_162
theorem gd_X10_133 : GoodIn gT (wsV RX10 133 RX10 yX10_becomesWritten (wsOf yX10_becomesWritten cX10_becomesWritten 4 (some .int))) := gdV tw4_184 tw4_186 tws_24 tw1_12 tw4_187
theorem gd_X10_136 : GoodIn gT (wsV RX10 136 RX10 yX10_isDeadPage (wsOf yX10_isDeadPage cX10_isDeadPage 5 (some .boolean))) := gdV tw4_212 tw4_214 tws_30 tw1_12 tw4_215
theorem gd_X10_140 : GoodIn gT (wsV RX10 140 RX10 yX10_falls (wsOf yX10_falls cX10_falls 4 (some .int))) := gdV tw4_204 tw4_206 tws_28 tw1_12 tw4_207
theorem gd_X10_143 : GoodIn gT (wsV RX10 143 RX10 yX10_firstDead (wsOf yX10_firstDead cX10_firstDead 3 (some .int))) := gdV tw4_208 tw4_210 tws_29 tw1_12 tw4_211
theorem gd_X10_146 : GoodIn gT (wsV RX10 146 RX10 yX10_isTooOld (wsOf yX10_isTooOld cX10_isTooOld 3 (some .boolean))) := gdV tw4_196 tw4_198 tws_26 tw1_12 tw4_199
theorem gd_X10_150 : GoodIn gT (wsV RX10 150 RX10 yX10_lossOf (wsOf yX10_lossOf cX10_lossOf 5 (some .int))) := gdV tw4_200 tw4_202 tws_27 tw1_12 tw4_203
theorem gd_X10_153 : GoodIn gT (wsV RX10 153 RX10 yX10_losesNow (wsOf yX10_losesNow cX10_losesNow 5 (some .int))) := gdV tw4_192 tw4_194 tws_25 tw1_12 tw4_195
theorem gd_X10_162 : GoodIn gT (wsV RX10 162 RX10 yX10_tries (wsOf yX10_tries cX10_tries 4 (some .int))) := gdV tw4_220 tw4_222 tws_31 tw1_12 tw4_223
theorem gd_X10_200 : GoodIn gT (wsV RX10 200 RX10 yX10_heldOf (wsOf yX10_heldOf cX10_heldOf 4 (some .int))) := gdV tw5_10 tw5_12 tws_34 tw1_12 tw5_13
theorem gd_X10_188 : GoodIn gT (wsV RX10 188 RX10 yX10_saysNow (wsOf yX10_saysNow cX10_saysNow 2 (some .int))) := gdV tw5_6 tw5_8 tws_33 tw1_12 tw5_9
theorem gd_X10_185 : GoodIn gT (wsV RX10 185 RX10 yX10_draws (wsOf yX10_draws cX10_draws 4 (some .boolean))) := gdV tw5_2 tw5_4 tws_32 tw1_12 tw5_5
theorem gd_X10_191 : GoodIn gT (wsV RX10 191 RX10 yX10_isFirm (wsOf yX10_isFirm cX10_isFirm 5 (some .boolean))) := gdV tw5_27 tw5_29 tws_37 tw1_12 tw5_30
theorem gd_X10_194 : GoodIn gT (wsV RX10 194 RX10 yX10_firmOf (wsOf yX10_firmOf cX10_firmOf 3 (some .int))) := gdV tw5_23 tw5_25 tws_36 tw1_12 tw5_26
theorem gd_X10_197 : GoodIn gT (wsV RX10 197 RX10 yX10_lettersTo (wsOf yX10_lettersTo cX10_lettersTo 4 (some .int))) := gdV tw5_31 tw5_33 tws_38 tw1_12 tw5_34
theorem gd_X10_205 : GoodIn gT (wsV RX10 205 RX10 yX10_clerkOf (wsOf yX10_clerkOf cX10_clerkOf 3 (some .int))) := gdV tw5_19 tw5_21 tws_35 tw1_12 tw5_22
theorem gd_X10_208 : GoodIn gT (wsV RX10 208 RX10 yX10_no (wsOf yX10_no cX10_no 1 (some .int))) := gdV tw5_39 tw5_41 tws_39 tw1_12 tw5_42
theorem gd_X10_213 : GoodIn gT (wsV RX10 213 RX10 yX10_isSafe (wsOf yX10_isSafe cX10_isSafe 2 (some .boolean))) := gdV tw5_76 tw5_78 tws_42 tw1_12 tw5_79
theorem gd_X10_216 : GoodIn gT (wsV RX10 216 RX10 yX10_firstSafe (wsOf yX10_firstSafe cX10_firstSafe 5 (some .int))) := gdV tw5_72 tw5_74 tws_41 tw1_12 tw5_75
theorem gd_X10_219 : GoodIn gT (wsV RX10 219 RX10 yX10_releases (wsOf yX10_releases cX10_releases 3 (some .int))) := gdV tw5_68 tw5_70 tws_40 tw1_12 tw5_71
theorem gd_X10_222 : GoodIn gT (wsV RX10 222 RX10 yX10_sayingOf (wsOf yX10_sayingOf cX10_sayingOf 3 (some .int))) := gdV tw5_84 tw5_86 tws_43 tw1_12 tw5_87
theorem gd_X10_225 : GoodIn gT (wsV RX10 225 RX10 yX10_cutsNow (wsOf yX10_cutsNow cX10_cutsNow 4 (some .int))) := gdV tw5_96 tw5_98 tws_44 tw1_12 tw5_99
theorem gd_X10_233 : GoodIn gT (wsV RX10 233 RX10 yX10_full (wsOf yX10_full cX10_full 1 (some .int))) := gdV tw5_105 tw5_107 tws_45 tw1_12 tw5_108
theorem gd_X10_243 : GoodIn gT (wsV RX10 243 RX10 yX10_skip (wsOf yX10_skip cX10_skip 1 none)) := gdV tw5_125 tw5_127 tws_48 tw1_12 tw5_128
theorem gd_X10_246 : GoodIn gT (wsV RX10 246 RX10 yX10_isFigure (wsOf yX10_isFigure cX10_isFigure 2 (some .boolean))) := gdV tw5_136 tw5_138 tws_50 tw1_12 tw5_139
theorem gd_X10_249 : GoodIn gT (va_wsS RX10 249 yX10_manyOf (wsOf yX10_manyOf cX10_manyOf 1 (some .int))) := gdS tw5_129 tw5_130 tw1_12 tw5_131
theorem gd_X10_252 : GoodIn gT (wsV RX10 252 RX10 yX10_takes (wsOf yX10_takes cX10_takes 5 (some .int))) := gdV tw5_132 tw5_134 tws_49 tw1_12 tw5_135
theorem gd_X10_261 : GoodIn gT (wsV RX10 261 RX10 yX10_cutsAll (wsOf yX10_cutsAll cX10_cutsAll 3 (some .int))) := gdV tw5_146 tw5_148 tws_52 tw1_12 tw5_149
theorem gd_X10_264 : GoodIn gT (wsV RX10 264 RX10 yX10_reads (wsOf yX10_reads cX10_reads 4 (some .int))) := gdV tw5_121 tw5_123 tws_47 tw1_12 tw5_124
theorem gd_X10_267 : GoodIn gT (wsV RX10 267 RX10 yX10_doesOne (wsOf yX10_doesOne cX10_doesOne 2 (some .boolean))) := gdV tw5_142 tw5_144 tws_51 tw1_12 tw5_145
theorem gd_X10_270 : GoodIn gT (wsV RX10 270 RX10 yX10_goesThrough (wsOf yX10_goesThrough cX10_goesThrough 5 (some .int))) := gdV tw5_117 tw5_119 tws_46 tw1_12 tw5_120
theorem gd_X10_274 : GoodIn gT (wsV RX10 274 RX10 yX10_toldOf (wsOf yX10_toldOf cX10_toldOf 2 (some .int))) := gdV tw5_154 tw5_156 tws_53 tw1_12 tw5_157
theorem gc_X9_put : GoodIn gT (wsOf yX9_put cX9_put 3 none) := gdC tw1_189
theorem gc_X9_at : GoodIn gT (wsOf yX9_at cX9_at 2 (some .int)) := gdC tw2_93
theorem gc_X9_leftOver : GoodIn gT (wsOf yX9_leftOver cX9_leftOver 3 (some .int)) := gdC tw2_98
theorem gc_X9_within : GoodIn gT (wsOf yX9_within cX9_within 3 (some .boolean)) := gdC tw2_61
