/-! Throws, copies, stores of references, returns, switches. Printed by wip/whole/gen14.py. -/
section AXQ
def ax_nms : List String := ["java/lang/RuntimeException", "java/lang/Exception"]
def ax_ic (E : Nat) : Nat := [100, 39, 53].getD E 0
def ax_ik (E : Nat) : Nat := [96, 35, 49].getD E 0
def ax_ow : Cond → Prop := fun w => ax_gw w ∨ (∃ x ∈ ax_nd, w = .declares x) ∨ ∃ q ∈ ax_nc, w = .castable q.1 q.2
def ax_no : Cond → Prop := fun w => vx_no w = true → ax_ow w
theorem ax_tw0_0 : ax_no (.initialized "java/lang/Throwable") := fun _ => Or.inl ⟨ax_t1 (List.mem_of_getElem? (i := 6) rfl), rfl⟩
theorem ax_tw0_1 : ax_no (.superclass "java/lang/Throwable" "java/lang/Object") := fun _ => Or.inl ⟨ax_t1 (List.mem_of_getElem? (i := 132) rfl), rfl⟩
theorem ax_tw0_2 : ax_no (.instanceMethod ⟨"java/lang/Throwable", "fillInStackTrace", "()Ljava/lang/Throwable;"⟩) := fun _ => Or.inl ⟨ax_t1 (List.mem_of_getElem? (i := 141) rfl), rfl⟩
theorem ax_tw0_3 : ax_no (.codeSync ⟨"java/lang/Throwable", "fillInStackTrace", "()Ljava/lang/Throwable;"⟩ LibCode.Throwable.Fill.code 1 (some (.object "java/lang/Throwable"))) := fun _ => Or.inl ⟨ax_t1 (List.mem_of_getElem? (i := 145) rfl), rfl⟩
theorem ax_tw0_4 : ax_no (.instanceMethod ⟨"java/lang/Throwable", "fillInStackTrace", "(I)Ljava/lang/Throwable;"⟩) := fun _ => Or.inl ⟨ax_t1 (List.mem_of_getElem? (i := 148) rfl), rfl⟩
theorem ax_tw0_5 : ax_no (.native ⟨"java/lang/Throwable", "fillInStackTrace", "(I)Ljava/lang/Throwable;"⟩) := fun _ => Or.inl ⟨ax_t1 (List.mem_of_getElem? (i := 150) rfl), rfl⟩
theorem ax_tw0_6 : ax_no (.instanceMethod ⟨"java/lang/Throwable", "<init>", "()V"⟩) := fun _ => Or.inl ⟨ax_t1 (List.mem_of_getElem? (i := 133) rfl), rfl⟩
theorem ax_tw0_7 : ax_no (.code ⟨"java/lang/Throwable", "<init>", "()V"⟩ LibCode.Throwable.Init0.code 1 none) := fun _ => Or.inl ⟨ax_t1 (List.mem_of_getElem? (i := 134) rfl), rfl⟩
theorem ax_tw0_8 : ax_no (.instanceMethod ⟨"java/lang/Object", "<init>", "()V"⟩) := fun _ => Or.inl ⟨ax_t1 (List.mem_of_getElem? (i := 30) rfl), rfl⟩
theorem ax_tw0_9 : ax_no (.code ⟨"java/lang/Object", "<init>", "()V"⟩ ⟨#[0xb1]⟩ 1 none) := fun _ => Or.inl ⟨ax_t1 (List.mem_of_getElem? (i := 31) rfl), rfl⟩
theorem ax_tw0_10 : ax_no (.methodLink "java/lang/Throwable" 1 ⟨"java/lang/Object", "<init>", "()V"⟩) := fun _ => Or.inl ⟨ax_t1 (List.mem_of_getElem? (i := 135) rfl), rfl⟩
theorem ax_tw0_11 : ax_no (.methodLink "java/lang/Throwable" 27 ⟨"java/lang/Throwable", "fillInStackTrace", "()Ljava/lang/Throwable;"⟩) := fun _ => Or.inl ⟨ax_t1 (List.mem_of_getElem? (i := 140) rfl), rfl⟩
theorem ax_tw0_12 : ax_no (.methodLink "java/lang/Throwable" 202 ⟨"java/lang/Throwable", "fillInStackTrace", "(I)Ljava/lang/Throwable;"⟩) := fun _ => Or.inl ⟨ax_t1 (List.mem_of_getElem? (i := 146) rfl), rfl⟩
theorem ax_tw0_13 : ax_no (.fieldLink "java/lang/Throwable" 7 "java/lang/Throwable" "cause" "Ljava/lang/Throwable;") := fun _ => Or.inl ⟨ax_t1 (List.mem_of_getElem? (i := 166) rfl), rfl⟩
theorem ax_tw0_14 : ax_no (.lays "java/lang/Throwable" "java/lang/Throwable" "cause" "Ljava/lang/Throwable;") := fun _ => Or.inl ⟨ax_t1 (List.mem_of_getElem? (i := 122) rfl), rfl⟩
theorem ax_tw0_15 : ax_no (.fieldLink "java/lang/Throwable" 17 "java/lang/Throwable" "stackTrace" "[Ljava/lang/StackTraceElement;") := fun _ => Or.inl ⟨ax_t1 (List.mem_of_getElem? (i := 167) rfl), rfl⟩
theorem ax_tw0_16 : ax_no (.lays "java/lang/Throwable" "java/lang/Throwable" "stackTrace" "[Ljava/lang/StackTraceElement;") := fun _ => Or.inl ⟨ax_t1 (List.mem_of_getElem? (i := 124) rfl), rfl⟩
theorem ax_tw0_17 : ax_no (.fieldLink "java/lang/Throwable" 24 "java/lang/Throwable" "suppressedExceptions" "Ljava/util/List;") := fun _ => Or.inl ⟨ax_t1 (List.mem_of_getElem? (i := 168) rfl), rfl⟩
theorem ax_tw0_18 : ax_no (.lays "java/lang/Throwable" "java/lang/Throwable" "suppressedExceptions" "Ljava/util/List;") := fun _ => Or.inl ⟨ax_t1 (List.mem_of_getElem? (i := 126) rfl), rfl⟩
theorem ax_tw0_19 : ax_no (.fieldLink "java/lang/Throwable" 13 "java/lang/Throwable" "UNASSIGNED_STACK" "[Ljava/lang/StackTraceElement;") := fun _ => Or.inl ⟨ax_t1 (List.mem_of_getElem? (i := 136) rfl), rfl⟩
theorem ax_tw0_20 : ax_no (.laysStatic "java/lang/Throwable" "UNASSIGNED_STACK" "[Ljava/lang/StackTraceElement;") := fun h => absurd h (by unfold vx_no; simp [Bundle.tN, Bundle.steD, Bundle.listD])
theorem ax_tw0_21 : ax_no (.fieldLink "java/lang/Throwable" 20 "java/lang/Throwable" "SUPPRESSED_SENTINEL" "Ljava/util/List;") := fun _ => Or.inl ⟨ax_t1 (List.mem_of_getElem? (i := 138) rfl), rfl⟩
theorem ax_tw0_22 : ax_no (.laysStatic "java/lang/Throwable" "SUPPRESSED_SENTINEL" "Ljava/util/List;") := fun h => absurd h (by unfold vx_no; simp [Bundle.tN, Bundle.steD, Bundle.listD])
theorem ax_tw0_23 : ax_no (.lays "java/lang/Throwable" "java/lang/Throwable" "detailMessage" "Ljava/lang/String;") := fun _ => Or.inl ⟨ax_t1 (List.mem_of_getElem? (i := 128) rfl), rfl⟩
theorem ax_tw0_24 : ax_no (.instanceMethod ⟨"java/lang/Throwable", "<init>", "(Ljava/lang/String;)V"⟩) := fun _ => Or.inl ⟨ax_t1 (List.mem_of_getElem? (i := 162) rfl), rfl⟩
theorem ax_tw0_25 : ax_no (.code ⟨"java/lang/Throwable", "<init>", "(Ljava/lang/String;)V"⟩ LibCode.Throwable.InitS.code 2 none) := fun _ => Or.inl ⟨ax_t1 (List.mem_of_getElem? (i := 163) rfl), rfl⟩
theorem ax_tw0_26 : ax_no (.fieldLink "java/lang/Throwable" 31 "java/lang/Throwable" "detailMessage" "Ljava/lang/String;") := fun _ => Or.inl ⟨ax_t1 (List.mem_of_getElem? (i := 165) rfl), rfl⟩
theorem ax_tw0_27 : ax_no (.lays "java/lang/Throwable" "java/lang/Throwable" "detailMessage" "Ljava/lang/String;") := fun _ => Or.inl ⟨ax_t1 (List.mem_of_getElem? (i := 128) rfl), rfl⟩
theorem ax_tw0_28 : ax_no (.instanceMethod ⟨"java/lang/IndexOutOfBoundsException", "<init>", "(Ljava/lang/String;)V"⟩) := fun _ => Or.inl ⟨ax_t2 (List.mem_of_getElem? (i := 108) rfl), rfl⟩
theorem ax_tw0_29 : ax_no (.code ⟨"java/lang/IndexOutOfBoundsException", "<init>", "(Ljava/lang/String;)V"⟩ Bundle.six 2 none) := fun _ => Or.inl ⟨ax_t2 (List.mem_of_getElem? (i := 109) rfl), rfl⟩
theorem ax_tw0_30 : ax_no (.methodLink "java/lang/IndexOutOfBoundsException" 7 ⟨"java/lang/RuntimeException", "<init>", "(Ljava/lang/String;)V"⟩) := fun _ => Or.inl ⟨ax_t2 (List.mem_of_getElem? (i := 110) rfl), rfl⟩
theorem ax_tw0_31 : ax_no (.instanceMethod ⟨"java/lang/RuntimeException", "<init>", "(Ljava/lang/String;)V"⟩) := fun _ => Or.inl ⟨ax_t1 (List.mem_of_getElem? (i := 156) rfl), rfl⟩
theorem ax_tw0_32 : ax_no (.declares ⟨"java/lang/RuntimeException", "<init>", "(Ljava/lang/String;)V"⟩) := fun _ => Or.inr (Or.inl ⟨_, List.mem_of_getElem? (i := 0) rfl, rfl⟩)
theorem ax_tw0_33 : ax_no (.instanceMethod ⟨"java/lang/RuntimeException", "<init>", "(Ljava/lang/String;)V"⟩) := fun _ => Or.inl ⟨ax_t1 (List.mem_of_getElem? (i := 156) rfl), rfl⟩
theorem ax_tw0_34 : ax_no (.code ⟨"java/lang/RuntimeException", "<init>", "(Ljava/lang/String;)V"⟩ Bundle.six 2 none) := fun _ => Or.inl ⟨ax_t1 (List.mem_of_getElem? (i := 157) rfl), rfl⟩
theorem ax_tw0_35 : ax_no (.methodLink "java/lang/RuntimeException" 7 ⟨"java/lang/Exception", "<init>", "(Ljava/lang/String;)V"⟩) := fun _ => Or.inl ⟨ax_t1 (List.mem_of_getElem? (i := 158) rfl), rfl⟩
theorem ax_tw0_36 : ax_no (.instanceMethod ⟨"java/lang/Exception", "<init>", "(Ljava/lang/String;)V"⟩) := fun _ => Or.inl ⟨ax_t1 (List.mem_of_getElem? (i := 159) rfl), rfl⟩
theorem ax_tw0_37 : ax_no (.declares ⟨"java/lang/Exception", "<init>", "(Ljava/lang/String;)V"⟩) := fun _ => Or.inr (Or.inl ⟨_, List.mem_of_getElem? (i := 1) rfl, rfl⟩)
theorem ax_tw0_38 : ax_no (.instanceMethod ⟨"java/lang/Exception", "<init>", "(Ljava/lang/String;)V"⟩) := fun _ => Or.inl ⟨ax_t1 (List.mem_of_getElem? (i := 159) rfl), rfl⟩
theorem ax_tw0_39 : ax_no (.code ⟨"java/lang/Exception", "<init>", "(Ljava/lang/String;)V"⟩ Bundle.six 2 none) := fun _ => Or.inl ⟨ax_t1 (List.mem_of_getElem? (i := 160) rfl), rfl⟩
theorem ax_tw0_40 : ax_no (.methodLink "java/lang/Exception" 7 ⟨"java/lang/Throwable", "<init>", "(Ljava/lang/String;)V"⟩) := fun _ => Or.inl ⟨ax_t1 (List.mem_of_getElem? (i := 161) rfl), rfl⟩
theorem ax_tw0_41 : ax_no (.instanceMethod ⟨"java/lang/Throwable", "<init>", "(Ljava/lang/String;)V"⟩) := fun _ => Or.inl ⟨ax_t1 (List.mem_of_getElem? (i := 162) rfl), rfl⟩
theorem ax_tw0_42 : ax_no (.declares ⟨"java/lang/Throwable", "<init>", "(Ljava/lang/String;)V"⟩) := fun _ => Or.inr (Or.inl ⟨_, List.mem_of_getElem? (i := 2) rfl, rfl⟩)
theorem ax_tw0_43 : ax_no (.methodLink "PipelineRunner" 100 ⟨"java/lang/IndexOutOfBoundsException", "<init>", "(Ljava/lang/String;)V"⟩) := fun _ => Or.inl ⟨ax_t2 (List.mem_of_getElem? (i := 107) rfl), rfl⟩
theorem ax_tw0_44 : ax_no (.instantiable "java/lang/IndexOutOfBoundsException" 6) := fun _ => Or.inl ⟨ax_t2 (List.mem_of_getElem? (i := 98) rfl), rfl⟩
theorem ax_tw0_45 : ax_no (.castable "java/lang/IndexOutOfBoundsException" "java/lang/IndexOutOfBoundsException") := fun _ => Or.inr (Or.inr ⟨_, List.mem_of_getElem? (i := 9) rfl, rfl⟩)
theorem ax_tw0_46 : ax_no (.selects "java/lang/IndexOutOfBoundsException" ⟨"java/lang/Throwable", "fillInStackTrace", "(I)Ljava/lang/Throwable;"⟩ ⟨"java/lang/Throwable", "fillInStackTrace", "(I)Ljava/lang/Throwable;"⟩) := fun _ => Or.inl ⟨ax_t2 (List.mem_of_getElem? (i := 100) rfl), rfl⟩
theorem ax_tw0_47 : ax_no (.selects "java/lang/IndexOutOfBoundsException" ⟨"java/lang/Throwable", "fillInStackTrace", "()Ljava/lang/Throwable;"⟩ ⟨"java/lang/Throwable", "fillInStackTrace", "()Ljava/lang/Throwable;"⟩) := fun _ => Or.inl ⟨ax_t1 (List.mem_of_getElem? (i := 144) rfl), rfl⟩
theorem ax_tw0_48 : ax_no (.lays "java/lang/IndexOutOfBoundsException" "java/lang/Throwable" "cause" "Ljava/lang/Throwable;") := fun _ => Or.inl ⟨ax_t2 (List.mem_of_getElem? (i := 101) rfl), rfl⟩
theorem ax_tw0_49 : ax_no (.lays "java/lang/IndexOutOfBoundsException" "java/lang/Throwable" "stackTrace" "[Ljava/lang/StackTraceElement;") := fun _ => Or.inl ⟨ax_t2 (List.mem_of_getElem? (i := 102) rfl), rfl⟩
theorem ax_tw0_50 : ax_no (.lays "java/lang/IndexOutOfBoundsException" "java/lang/Throwable" "suppressedExceptions" "Ljava/util/List;") := fun _ => Or.inl ⟨ax_t2 (List.mem_of_getElem? (i := 103) rfl), rfl⟩
theorem ax_tw0_51 : ax_no (.lays "java/lang/IndexOutOfBoundsException" "java/lang/Throwable" "detailMessage" "Ljava/lang/String;") := fun _ => Or.inl ⟨ax_t2 (List.mem_of_getElem? (i := 104) rfl), rfl⟩
theorem ax_tw0_52 : ax_no (.isRef (.static "java/lang/Throwable" "UNASSIGNED_STACK" "[Ljava/lang/StackTraceElement;")) := fun h => absurd h (by unfold vx_no; simp [Bundle.tN, Bundle.steD, Bundle.listD])
theorem ax_tw0_53 : ax_no (.isRef (.static "java/lang/Throwable" "SUPPRESSED_SENTINEL" "Ljava/util/List;")) := fun h => absurd h (by unfold vx_no; simp [Bundle.tN, Bundle.steD, Bundle.listD])
theorem ax_tw0_54 : ax_no (.fieldLink "java/lang/Throwable" 198 "java/lang/Throwable" "backtrace" "Ljava/lang/Object;") := fun _ => Or.inl ⟨ax_t1 (List.mem_of_getElem? (i := 131) rfl), rfl⟩
theorem ax_tw0_55 : ax_no (.lays "java/lang/Throwable" "java/lang/Throwable" "backtrace" "Ljava/lang/Object;") := fun _ => Or.inl ⟨ax_t1 (List.mem_of_getElem? (i := 130) rfl), rfl⟩
theorem ax_tw0_56 : ax_no (.lays "java/lang/IndexOutOfBoundsException" "java/lang/Throwable" "backtrace" "Ljava/lang/Object;") := fun _ => Or.inl ⟨ax_t2 (List.mem_of_getElem? (i := 105) rfl), rfl⟩
theorem ax_tl0 : ∀ w ∈ ([.initialized "java/lang/Throwable", .superclass "java/lang/Throwable" "java/lang/Object", .instanceMethod ⟨"java/lang/Throwable", "fillInStackTrace", "()Ljava/lang/Throwable;"⟩, .codeSync ⟨"java/lang/Throwable", "fillInStackTrace", "()Ljava/lang/Throwable;"⟩ LibCode.Throwable.Fill.code 1 (some (.object "java/lang/Throwable")), .instanceMethod ⟨"java/lang/Throwable", "fillInStackTrace", "(I)Ljava/lang/Throwable;"⟩, .native ⟨"java/lang/Throwable", "fillInStackTrace", "(I)Ljava/lang/Throwable;"⟩, .instanceMethod ⟨"java/lang/Throwable", "<init>", "()V"⟩, .code ⟨"java/lang/Throwable", "<init>", "()V"⟩ LibCode.Throwable.Init0.code 1 none, .instanceMethod ⟨"java/lang/Object", "<init>", "()V"⟩, .code ⟨"java/lang/Object", "<init>", "()V"⟩ ⟨#[0xb1]⟩ 1 none, .methodLink "java/lang/Throwable" 1 ⟨"java/lang/Object", "<init>", "()V"⟩, .methodLink "java/lang/Throwable" 27 ⟨"java/lang/Throwable", "fillInStackTrace", "()Ljava/lang/Throwable;"⟩, .methodLink "java/lang/Throwable" 202 ⟨"java/lang/Throwable", "fillInStackTrace", "(I)Ljava/lang/Throwable;"⟩, .fieldLink "java/lang/Throwable" 7 "java/lang/Throwable" "cause" "Ljava/lang/Throwable;", .lays "java/lang/Throwable" "java/lang/Throwable" "cause" "Ljava/lang/Throwable;", .fieldLink "java/lang/Throwable" 17 "java/lang/Throwable" "stackTrace" "[Ljava/lang/StackTraceElement;", .lays "java/lang/Throwable" "java/lang/Throwable" "stackTrace" "[Ljava/lang/StackTraceElement;", .fieldLink "java/lang/Throwable" 24 "java/lang/Throwable" "suppressedExceptions" "Ljava/util/List;", .lays "java/lang/Throwable" "java/lang/Throwable" "suppressedExceptions" "Ljava/util/List;", .fieldLink "java/lang/Throwable" 13 "java/lang/Throwable" "UNASSIGNED_STACK" "[Ljava/lang/StackTraceElement;", .laysStatic "java/lang/Throwable" "UNASSIGNED_STACK" "[Ljava/lang/StackTraceElement;", .fieldLink "java/lang/Throwable" 20 "java/lang/Throwable" "SUPPRESSED_SENTINEL" "Ljava/util/List;", .laysStatic "java/lang/Throwable" "SUPPRESSED_SENTINEL" "Ljava/util/List;", .lays "java/lang/Throwable" "java/lang/Throwable" "detailMessage" "Ljava/lang/String;", .instanceMethod ⟨"java/lang/Throwable", "<init>", "(Ljava/lang/String;)V"⟩, .code ⟨"java/lang/Throwable", "<init>", "(Ljava/lang/String;)V"⟩ LibCode.Throwable.InitS.code 2 none, .fieldLink "java/lang/Throwable" 31 "java/lang/Throwable" "detailMessage" "Ljava/lang/String;", .lays "java/lang/Throwable" "java/lang/Throwable" "detailMessage" "Ljava/lang/String;", .instanceMethod ⟨"java/lang/IndexOutOfBoundsException", "<init>", "(Ljava/lang/String;)V"⟩, .code ⟨"java/lang/IndexOutOfBoundsException", "<init>", "(Ljava/lang/String;)V"⟩ Bundle.six 2 none, .methodLink "java/lang/IndexOutOfBoundsException" 7 ⟨"java/lang/RuntimeException", "<init>", "(Ljava/lang/String;)V"⟩, .instanceMethod ⟨"java/lang/RuntimeException", "<init>", "(Ljava/lang/String;)V"⟩, .declares ⟨"java/lang/RuntimeException", "<init>", "(Ljava/lang/String;)V"⟩, .instanceMethod ⟨"java/lang/RuntimeException", "<init>", "(Ljava/lang/String;)V"⟩, .code ⟨"java/lang/RuntimeException", "<init>", "(Ljava/lang/String;)V"⟩ Bundle.six 2 none, .methodLink "java/lang/RuntimeException" 7 ⟨"java/lang/Exception", "<init>", "(Ljava/lang/String;)V"⟩, .instanceMethod ⟨"java/lang/Exception", "<init>", "(Ljava/lang/String;)V"⟩, .declares ⟨"java/lang/Exception", "<init>", "(Ljava/lang/String;)V"⟩, .instanceMethod ⟨"java/lang/Exception", "<init>", "(Ljava/lang/String;)V"⟩, .code ⟨"java/lang/Exception", "<init>", "(Ljava/lang/String;)V"⟩ Bundle.six 2 none, .methodLink "java/lang/Exception" 7 ⟨"java/lang/Throwable", "<init>", "(Ljava/lang/String;)V"⟩, .instanceMethod ⟨"java/lang/Throwable", "<init>", "(Ljava/lang/String;)V"⟩, .declares ⟨"java/lang/Throwable", "<init>", "(Ljava/lang/String;)V"⟩, .methodLink "PipelineRunner" 100 ⟨"java/lang/IndexOutOfBoundsException", "<init>", "(Ljava/lang/String;)V"⟩, .instantiable "java/lang/IndexOutOfBoundsException" 6, .castable "java/lang/IndexOutOfBoundsException" "java/lang/IndexOutOfBoundsException", .selects "java/lang/IndexOutOfBoundsException" ⟨"java/lang/Throwable", "fillInStackTrace", "(I)Ljava/lang/Throwable;"⟩ ⟨"java/lang/Throwable", "fillInStackTrace", "(I)Ljava/lang/Throwable;"⟩, .selects "java/lang/IndexOutOfBoundsException" ⟨"java/lang/Throwable", "fillInStackTrace", "()Ljava/lang/Throwable;"⟩ ⟨"java/lang/Throwable", "fillInStackTrace", "()Ljava/lang/Throwable;"⟩, .lays "java/lang/IndexOutOfBoundsException" "java/lang/Throwable" "cause" "Ljava/lang/Throwable;", .lays "java/lang/IndexOutOfBoundsException" "java/lang/Throwable" "stackTrace" "[Ljava/lang/StackTraceElement;", .lays "java/lang/IndexOutOfBoundsException" "java/lang/Throwable" "suppressedExceptions" "Ljava/util/List;", .lays "java/lang/IndexOutOfBoundsException" "java/lang/Throwable" "detailMessage" "Ljava/lang/String;", .isRef (.static "java/lang/Throwable" "UNASSIGNED_STACK" "[Ljava/lang/StackTraceElement;"), .isRef (.static "java/lang/Throwable" "SUPPRESSED_SENTINEL" "Ljava/util/List;"), .fieldLink "java/lang/Throwable" 198 "java/lang/Throwable" "backtrace" "Ljava/lang/Object;", .lays "java/lang/Throwable" "java/lang/Throwable" "backtrace" "Ljava/lang/Object;", .lays "java/lang/IndexOutOfBoundsException" "java/lang/Throwable" "backtrace" "Ljava/lang/Object;"] : List Cond), ax_no w := List.forall_mem_cons.mpr ⟨ax_tw0_0, List.forall_mem_cons.mpr ⟨ax_tw0_1, List.forall_mem_cons.mpr ⟨ax_tw0_2, List.forall_mem_cons.mpr ⟨ax_tw0_3, List.forall_mem_cons.mpr ⟨ax_tw0_4, List.forall_mem_cons.mpr ⟨ax_tw0_5, List.forall_mem_cons.mpr ⟨ax_tw0_6, List.forall_mem_cons.mpr ⟨ax_tw0_7, List.forall_mem_cons.mpr ⟨ax_tw0_8, List.forall_mem_cons.mpr ⟨ax_tw0_9, List.forall_mem_cons.mpr ⟨ax_tw0_10, List.forall_mem_cons.mpr ⟨ax_tw0_11, List.forall_mem_cons.mpr ⟨ax_tw0_12, List.forall_mem_cons.mpr ⟨ax_tw0_13, List.forall_mem_cons.mpr ⟨ax_tw0_14, List.forall_mem_cons.mpr ⟨ax_tw0_15, List.forall_mem_cons.mpr ⟨ax_tw0_16, List.forall_mem_cons.mpr ⟨ax_tw0_17, List.forall_mem_cons.mpr ⟨ax_tw0_18, List.forall_mem_cons.mpr ⟨ax_tw0_19, List.forall_mem_cons.mpr ⟨ax_tw0_20, List.forall_mem_cons.mpr ⟨ax_tw0_21, List.forall_mem_cons.mpr ⟨ax_tw0_22, List.forall_mem_cons.mpr ⟨ax_tw0_23, List.forall_mem_cons.mpr ⟨ax_tw0_24, List.forall_mem_cons.mpr ⟨ax_tw0_25, List.forall_mem_cons.mpr ⟨ax_tw0_26, List.forall_mem_cons.mpr ⟨ax_tw0_27, List.forall_mem_cons.mpr ⟨ax_tw0_28, List.forall_mem_cons.mpr ⟨ax_tw0_29, List.forall_mem_cons.mpr ⟨ax_tw0_30, List.forall_mem_cons.mpr ⟨ax_tw0_31, List.forall_mem_cons.mpr ⟨ax_tw0_32, List.forall_mem_cons.mpr ⟨ax_tw0_33, List.forall_mem_cons.mpr ⟨ax_tw0_34, List.forall_mem_cons.mpr ⟨ax_tw0_35, List.forall_mem_cons.mpr ⟨ax_tw0_36, List.forall_mem_cons.mpr ⟨ax_tw0_37, List.forall_mem_cons.mpr ⟨ax_tw0_38, List.forall_mem_cons.mpr ⟨ax_tw0_39, List.forall_mem_cons.mpr ⟨ax_tw0_40, List.forall_mem_cons.mpr ⟨ax_tw0_41, List.forall_mem_cons.mpr ⟨ax_tw0_42, List.forall_mem_cons.mpr ⟨ax_tw0_43, List.forall_mem_cons.mpr ⟨ax_tw0_44, List.forall_mem_cons.mpr ⟨ax_tw0_45, List.forall_mem_cons.mpr ⟨ax_tw0_46, List.forall_mem_cons.mpr ⟨ax_tw0_47, List.forall_mem_cons.mpr ⟨ax_tw0_48, List.forall_mem_cons.mpr ⟨ax_tw0_49, List.forall_mem_cons.mpr ⟨ax_tw0_50, List.forall_mem_cons.mpr ⟨ax_tw0_51, List.forall_mem_cons.mpr ⟨ax_tw0_52, List.forall_mem_cons.mpr ⟨ax_tw0_53, List.forall_mem_cons.mpr ⟨ax_tw0_54, List.forall_mem_cons.mpr ⟨ax_tw0_55, List.forall_mem_cons.mpr ⟨ax_tw0_56, fun _ h => absurd h List.not_mem_nil⟩⟩⟩⟩⟩⟩⟩⟩⟩⟩⟩⟩⟩⟩⟩⟩⟩⟩⟩⟩⟩⟩⟩⟩⟩⟩⟩⟩⟩⟩⟩⟩⟩⟩⟩⟩⟩⟩⟩⟩⟩⟩⟩⟩⟩⟩⟩⟩⟩⟩⟩⟩⟩⟩⟩⟩⟩
theorem ax_ta0 : ∀ w ∈ vx_atS "PipelineRunner" 100 "java/lang/IndexOutOfBoundsException" ax_nms, ax_ow w := fun w h => ax_tl0 w (List.mem_filter.mp h).1 (List.mem_filter.mp h).2
theorem ax_tw1_0 : ax_no (.initialized "java/lang/Throwable") := fun _ => Or.inl ⟨ax_t1 (List.mem_of_getElem? (i := 6) rfl), rfl⟩
theorem ax_tw1_1 : ax_no (.superclass "java/lang/Throwable" "java/lang/Object") := fun _ => Or.inl ⟨ax_t1 (List.mem_of_getElem? (i := 132) rfl), rfl⟩
theorem ax_tw1_2 : ax_no (.instanceMethod ⟨"java/lang/Throwable", "fillInStackTrace", "()Ljava/lang/Throwable;"⟩) := fun _ => Or.inl ⟨ax_t1 (List.mem_of_getElem? (i := 141) rfl), rfl⟩
theorem ax_tw1_3 : ax_no (.codeSync ⟨"java/lang/Throwable", "fillInStackTrace", "()Ljava/lang/Throwable;"⟩ LibCode.Throwable.Fill.code 1 (some (.object "java/lang/Throwable"))) := fun _ => Or.inl ⟨ax_t1 (List.mem_of_getElem? (i := 145) rfl), rfl⟩
theorem ax_tw1_4 : ax_no (.instanceMethod ⟨"java/lang/Throwable", "fillInStackTrace", "(I)Ljava/lang/Throwable;"⟩) := fun _ => Or.inl ⟨ax_t1 (List.mem_of_getElem? (i := 148) rfl), rfl⟩
theorem ax_tw1_5 : ax_no (.native ⟨"java/lang/Throwable", "fillInStackTrace", "(I)Ljava/lang/Throwable;"⟩) := fun _ => Or.inl ⟨ax_t1 (List.mem_of_getElem? (i := 150) rfl), rfl⟩
theorem ax_tw1_6 : ax_no (.instanceMethod ⟨"java/lang/Throwable", "<init>", "()V"⟩) := fun _ => Or.inl ⟨ax_t1 (List.mem_of_getElem? (i := 133) rfl), rfl⟩
theorem ax_tw1_7 : ax_no (.code ⟨"java/lang/Throwable", "<init>", "()V"⟩ LibCode.Throwable.Init0.code 1 none) := fun _ => Or.inl ⟨ax_t1 (List.mem_of_getElem? (i := 134) rfl), rfl⟩
theorem ax_tw1_8 : ax_no (.instanceMethod ⟨"java/lang/Object", "<init>", "()V"⟩) := fun _ => Or.inl ⟨ax_t1 (List.mem_of_getElem? (i := 30) rfl), rfl⟩
theorem ax_tw1_9 : ax_no (.code ⟨"java/lang/Object", "<init>", "()V"⟩ ⟨#[0xb1]⟩ 1 none) := fun _ => Or.inl ⟨ax_t1 (List.mem_of_getElem? (i := 31) rfl), rfl⟩
theorem ax_tw1_10 : ax_no (.methodLink "java/lang/Throwable" 1 ⟨"java/lang/Object", "<init>", "()V"⟩) := fun _ => Or.inl ⟨ax_t1 (List.mem_of_getElem? (i := 135) rfl), rfl⟩
theorem ax_tw1_11 : ax_no (.methodLink "java/lang/Throwable" 27 ⟨"java/lang/Throwable", "fillInStackTrace", "()Ljava/lang/Throwable;"⟩) := fun _ => Or.inl ⟨ax_t1 (List.mem_of_getElem? (i := 140) rfl), rfl⟩
theorem ax_tw1_12 : ax_no (.methodLink "java/lang/Throwable" 202 ⟨"java/lang/Throwable", "fillInStackTrace", "(I)Ljava/lang/Throwable;"⟩) := fun _ => Or.inl ⟨ax_t1 (List.mem_of_getElem? (i := 146) rfl), rfl⟩
theorem ax_tw1_13 : ax_no (.fieldLink "java/lang/Throwable" 7 "java/lang/Throwable" "cause" "Ljava/lang/Throwable;") := fun _ => Or.inl ⟨ax_t1 (List.mem_of_getElem? (i := 166) rfl), rfl⟩
theorem ax_tw1_14 : ax_no (.lays "java/lang/Throwable" "java/lang/Throwable" "cause" "Ljava/lang/Throwable;") := fun _ => Or.inl ⟨ax_t1 (List.mem_of_getElem? (i := 122) rfl), rfl⟩
theorem ax_tw1_15 : ax_no (.fieldLink "java/lang/Throwable" 17 "java/lang/Throwable" "stackTrace" "[Ljava/lang/StackTraceElement;") := fun _ => Or.inl ⟨ax_t1 (List.mem_of_getElem? (i := 167) rfl), rfl⟩
theorem ax_tw1_16 : ax_no (.lays "java/lang/Throwable" "java/lang/Throwable" "stackTrace" "[Ljava/lang/StackTraceElement;") := fun _ => Or.inl ⟨ax_t1 (List.mem_of_getElem? (i := 124) rfl), rfl⟩
theorem ax_tw1_17 : ax_no (.fieldLink "java/lang/Throwable" 24 "java/lang/Throwable" "suppressedExceptions" "Ljava/util/List;") := fun _ => Or.inl ⟨ax_t1 (List.mem_of_getElem? (i := 168) rfl), rfl⟩
theorem ax_tw1_18 : ax_no (.lays "java/lang/Throwable" "java/lang/Throwable" "suppressedExceptions" "Ljava/util/List;") := fun _ => Or.inl ⟨ax_t1 (List.mem_of_getElem? (i := 126) rfl), rfl⟩
theorem ax_tw1_19 : ax_no (.fieldLink "java/lang/Throwable" 13 "java/lang/Throwable" "UNASSIGNED_STACK" "[Ljava/lang/StackTraceElement;") := fun _ => Or.inl ⟨ax_t1 (List.mem_of_getElem? (i := 136) rfl), rfl⟩
theorem ax_tw1_20 : ax_no (.laysStatic "java/lang/Throwable" "UNASSIGNED_STACK" "[Ljava/lang/StackTraceElement;") := fun h => absurd h (by unfold vx_no; simp [Bundle.tN, Bundle.steD, Bundle.listD])
theorem ax_tw1_21 : ax_no (.fieldLink "java/lang/Throwable" 20 "java/lang/Throwable" "SUPPRESSED_SENTINEL" "Ljava/util/List;") := fun _ => Or.inl ⟨ax_t1 (List.mem_of_getElem? (i := 138) rfl), rfl⟩
theorem ax_tw1_22 : ax_no (.laysStatic "java/lang/Throwable" "SUPPRESSED_SENTINEL" "Ljava/util/List;") := fun h => absurd h (by unfold vx_no; simp [Bundle.tN, Bundle.steD, Bundle.listD])
theorem ax_tw1_23 : ax_no (.lays "java/lang/Throwable" "java/lang/Throwable" "detailMessage" "Ljava/lang/String;") := fun _ => Or.inl ⟨ax_t1 (List.mem_of_getElem? (i := 128) rfl), rfl⟩
theorem ax_tw1_24 : ax_no (.instanceMethod ⟨"java/lang/Throwable", "<init>", "(Ljava/lang/String;)V"⟩) := fun _ => Or.inl ⟨ax_t1 (List.mem_of_getElem? (i := 162) rfl), rfl⟩
theorem ax_tw1_25 : ax_no (.code ⟨"java/lang/Throwable", "<init>", "(Ljava/lang/String;)V"⟩ LibCode.Throwable.InitS.code 2 none) := fun _ => Or.inl ⟨ax_t1 (List.mem_of_getElem? (i := 163) rfl), rfl⟩
theorem ax_tw1_26 : ax_no (.fieldLink "java/lang/Throwable" 31 "java/lang/Throwable" "detailMessage" "Ljava/lang/String;") := fun _ => Or.inl ⟨ax_t1 (List.mem_of_getElem? (i := 165) rfl), rfl⟩
theorem ax_tw1_27 : ax_no (.lays "java/lang/Throwable" "java/lang/Throwable" "detailMessage" "Ljava/lang/String;") := fun _ => Or.inl ⟨ax_t1 (List.mem_of_getElem? (i := 128) rfl), rfl⟩
theorem ax_tw1_28 : ax_no (.instanceMethod ⟨"java/lang/IllegalArgumentException", "<init>", "(Ljava/lang/String;)V"⟩) := fun _ => Or.inl ⟨ax_t1 (List.mem_of_getElem? (i := 153) rfl), rfl⟩
theorem ax_tw1_29 : ax_no (.code ⟨"java/lang/IllegalArgumentException", "<init>", "(Ljava/lang/String;)V"⟩ Bundle.six 2 none) := fun _ => Or.inl ⟨ax_t1 (List.mem_of_getElem? (i := 154) rfl), rfl⟩
theorem ax_tw1_30 : ax_no (.methodLink "java/lang/IllegalArgumentException" 7 ⟨"java/lang/RuntimeException", "<init>", "(Ljava/lang/String;)V"⟩) := fun _ => Or.inl ⟨ax_t1 (List.mem_of_getElem? (i := 155) rfl), rfl⟩
theorem ax_tw1_31 : ax_no (.instanceMethod ⟨"java/lang/RuntimeException", "<init>", "(Ljava/lang/String;)V"⟩) := fun _ => Or.inl ⟨ax_t1 (List.mem_of_getElem? (i := 156) rfl), rfl⟩
theorem ax_tw1_32 : ax_no (.declares ⟨"java/lang/RuntimeException", "<init>", "(Ljava/lang/String;)V"⟩) := fun _ => Or.inr (Or.inl ⟨_, List.mem_of_getElem? (i := 0) rfl, rfl⟩)
theorem ax_tw1_33 : ax_no (.instanceMethod ⟨"java/lang/RuntimeException", "<init>", "(Ljava/lang/String;)V"⟩) := fun _ => Or.inl ⟨ax_t1 (List.mem_of_getElem? (i := 156) rfl), rfl⟩
theorem ax_tw1_34 : ax_no (.code ⟨"java/lang/RuntimeException", "<init>", "(Ljava/lang/String;)V"⟩ Bundle.six 2 none) := fun _ => Or.inl ⟨ax_t1 (List.mem_of_getElem? (i := 157) rfl), rfl⟩
theorem ax_tw1_35 : ax_no (.methodLink "java/lang/RuntimeException" 7 ⟨"java/lang/Exception", "<init>", "(Ljava/lang/String;)V"⟩) := fun _ => Or.inl ⟨ax_t1 (List.mem_of_getElem? (i := 158) rfl), rfl⟩
theorem ax_tw1_36 : ax_no (.instanceMethod ⟨"java/lang/Exception", "<init>", "(Ljava/lang/String;)V"⟩) := fun _ => Or.inl ⟨ax_t1 (List.mem_of_getElem? (i := 159) rfl), rfl⟩
theorem ax_tw1_37 : ax_no (.declares ⟨"java/lang/Exception", "<init>", "(Ljava/lang/String;)V"⟩) := fun _ => Or.inr (Or.inl ⟨_, List.mem_of_getElem? (i := 1) rfl, rfl⟩)
theorem ax_tw1_38 : ax_no (.instanceMethod ⟨"java/lang/Exception", "<init>", "(Ljava/lang/String;)V"⟩) := fun _ => Or.inl ⟨ax_t1 (List.mem_of_getElem? (i := 159) rfl), rfl⟩
theorem ax_tw1_39 : ax_no (.code ⟨"java/lang/Exception", "<init>", "(Ljava/lang/String;)V"⟩ Bundle.six 2 none) := fun _ => Or.inl ⟨ax_t1 (List.mem_of_getElem? (i := 160) rfl), rfl⟩
theorem ax_tw1_40 : ax_no (.methodLink "java/lang/Exception" 7 ⟨"java/lang/Throwable", "<init>", "(Ljava/lang/String;)V"⟩) := fun _ => Or.inl ⟨ax_t1 (List.mem_of_getElem? (i := 161) rfl), rfl⟩
theorem ax_tw1_41 : ax_no (.instanceMethod ⟨"java/lang/Throwable", "<init>", "(Ljava/lang/String;)V"⟩) := fun _ => Or.inl ⟨ax_t1 (List.mem_of_getElem? (i := 162) rfl), rfl⟩
theorem ax_tw1_42 : ax_no (.declares ⟨"java/lang/Throwable", "<init>", "(Ljava/lang/String;)V"⟩) := fun _ => Or.inr (Or.inl ⟨_, List.mem_of_getElem? (i := 2) rfl, rfl⟩)
theorem ax_tw1_43 : ax_no (.methodLink "PipelineRunner" 39 ⟨"java/lang/IllegalArgumentException", "<init>", "(Ljava/lang/String;)V"⟩) := fun _ => Or.inl ⟨ax_t1 (List.mem_of_getElem? (i := 152) rfl), rfl⟩
theorem ax_tw1_44 : ax_no (.instantiable "java/lang/IllegalArgumentException" 6) := fun _ => Or.inl ⟨ax_t1 (List.mem_of_getElem? (i := 111) rfl), rfl⟩
theorem ax_tw1_45 : ax_no (.castable "java/lang/IllegalArgumentException" "java/lang/IllegalArgumentException") := fun _ => Or.inr (Or.inr ⟨_, List.mem_of_getElem? (i := 10) rfl, rfl⟩)
theorem ax_tw1_46 : ax_no (.selects "java/lang/IllegalArgumentException" ⟨"java/lang/Throwable", "fillInStackTrace", "(I)Ljava/lang/Throwable;"⟩ ⟨"java/lang/Throwable", "fillInStackTrace", "(I)Ljava/lang/Throwable;"⟩) := fun _ => Or.inl ⟨ax_t1 (List.mem_of_getElem? (i := 119) rfl), rfl⟩
theorem ax_tw1_47 : ax_no (.selects "java/lang/IllegalArgumentException" ⟨"java/lang/Throwable", "fillInStackTrace", "()Ljava/lang/Throwable;"⟩ ⟨"java/lang/Throwable", "fillInStackTrace", "()Ljava/lang/Throwable;"⟩) := fun _ => Or.inl ⟨ax_t1 (List.mem_of_getElem? (i := 120) rfl), rfl⟩
theorem ax_tw1_48 : ax_no (.lays "java/lang/IllegalArgumentException" "java/lang/Throwable" "cause" "Ljava/lang/Throwable;") := fun _ => Or.inl ⟨ax_t1 (List.mem_of_getElem? (i := 121) rfl), rfl⟩
theorem ax_tw1_49 : ax_no (.lays "java/lang/IllegalArgumentException" "java/lang/Throwable" "stackTrace" "[Ljava/lang/StackTraceElement;") := fun _ => Or.inl ⟨ax_t1 (List.mem_of_getElem? (i := 123) rfl), rfl⟩
theorem ax_tw1_50 : ax_no (.lays "java/lang/IllegalArgumentException" "java/lang/Throwable" "suppressedExceptions" "Ljava/util/List;") := fun _ => Or.inl ⟨ax_t1 (List.mem_of_getElem? (i := 125) rfl), rfl⟩
theorem ax_tw1_51 : ax_no (.lays "java/lang/IllegalArgumentException" "java/lang/Throwable" "detailMessage" "Ljava/lang/String;") := fun _ => Or.inl ⟨ax_t1 (List.mem_of_getElem? (i := 127) rfl), rfl⟩
theorem ax_tw1_52 : ax_no (.isRef (.static "java/lang/Throwable" "UNASSIGNED_STACK" "[Ljava/lang/StackTraceElement;")) := fun h => absurd h (by unfold vx_no; simp [Bundle.tN, Bundle.steD, Bundle.listD])
theorem ax_tw1_53 : ax_no (.isRef (.static "java/lang/Throwable" "SUPPRESSED_SENTINEL" "Ljava/util/List;")) := fun h => absurd h (by unfold vx_no; simp [Bundle.tN, Bundle.steD, Bundle.listD])
theorem ax_tw1_54 : ax_no (.fieldLink "java/lang/Throwable" 198 "java/lang/Throwable" "backtrace" "Ljava/lang/Object;") := fun _ => Or.inl ⟨ax_t1 (List.mem_of_getElem? (i := 131) rfl), rfl⟩
theorem ax_tw1_55 : ax_no (.lays "java/lang/Throwable" "java/lang/Throwable" "backtrace" "Ljava/lang/Object;") := fun _ => Or.inl ⟨ax_t1 (List.mem_of_getElem? (i := 130) rfl), rfl⟩
theorem ax_tw1_56 : ax_no (.lays "java/lang/IllegalArgumentException" "java/lang/Throwable" "backtrace" "Ljava/lang/Object;") := fun _ => Or.inl ⟨ax_t1 (List.mem_of_getElem? (i := 129) rfl), rfl⟩
theorem ax_tl1 : ∀ w ∈ ([.initialized "java/lang/Throwable", .superclass "java/lang/Throwable" "java/lang/Object", .instanceMethod ⟨"java/lang/Throwable", "fillInStackTrace", "()Ljava/lang/Throwable;"⟩, .codeSync ⟨"java/lang/Throwable", "fillInStackTrace", "()Ljava/lang/Throwable;"⟩ LibCode.Throwable.Fill.code 1 (some (.object "java/lang/Throwable")), .instanceMethod ⟨"java/lang/Throwable", "fillInStackTrace", "(I)Ljava/lang/Throwable;"⟩, .native ⟨"java/lang/Throwable", "fillInStackTrace", "(I)Ljava/lang/Throwable;"⟩, .instanceMethod ⟨"java/lang/Throwable", "<init>", "()V"⟩, .code ⟨"java/lang/Throwable", "<init>", "()V"⟩ LibCode.Throwable.Init0.code 1 none, .instanceMethod ⟨"java/lang/Object", "<init>", "()V"⟩, .code ⟨"java/lang/Object", "<init>", "()V"⟩ ⟨#[0xb1]⟩ 1 none, .methodLink "java/lang/Throwable" 1 ⟨"java/lang/Object", "<init>", "()V"⟩, .methodLink "java/lang/Throwable" 27 ⟨"java/lang/Throwable", "fillInStackTrace", "()Ljava/lang/Throwable;"⟩, .methodLink "java/lang/Throwable" 202 ⟨"java/lang/Throwable", "fillInStackTrace", "(I)Ljava/lang/Throwable;"⟩, .fieldLink "java/lang/Throwable" 7 "java/lang/Throwable" "cause" "Ljava/lang/Throwable;", .lays "java/lang/Throwable" "java/lang/Throwable" "cause" "Ljava/lang/Throwable;", .fieldLink "java/lang/Throwable" 17 "java/lang/Throwable" "stackTrace" "[Ljava/lang/StackTraceElement;", .lays "java/lang/Throwable" "java/lang/Throwable" "stackTrace" "[Ljava/lang/StackTraceElement;", .fieldLink "java/lang/Throwable" 24 "java/lang/Throwable" "suppressedExceptions" "Ljava/util/List;", .lays "java/lang/Throwable" "java/lang/Throwable" "suppressedExceptions" "Ljava/util/List;", .fieldLink "java/lang/Throwable" 13 "java/lang/Throwable" "UNASSIGNED_STACK" "[Ljava/lang/StackTraceElement;", .laysStatic "java/lang/Throwable" "UNASSIGNED_STACK" "[Ljava/lang/StackTraceElement;", .fieldLink "java/lang/Throwable" 20 "java/lang/Throwable" "SUPPRESSED_SENTINEL" "Ljava/util/List;", .laysStatic "java/lang/Throwable" "SUPPRESSED_SENTINEL" "Ljava/util/List;", .lays "java/lang/Throwable" "java/lang/Throwable" "detailMessage" "Ljava/lang/String;", .instanceMethod ⟨"java/lang/Throwable", "<init>", "(Ljava/lang/String;)V"⟩, .code ⟨"java/lang/Throwable", "<init>", "(Ljava/lang/String;)V"⟩ LibCode.Throwable.InitS.code 2 none, .fieldLink "java/lang/Throwable" 31 "java/lang/Throwable" "detailMessage" "Ljava/lang/String;", .lays "java/lang/Throwable" "java/lang/Throwable" "detailMessage" "Ljava/lang/String;", .instanceMethod ⟨"java/lang/IllegalArgumentException", "<init>", "(Ljava/lang/String;)V"⟩, .code ⟨"java/lang/IllegalArgumentException", "<init>", "(Ljava/lang/String;)V"⟩ Bundle.six 2 none, .methodLink "java/lang/IllegalArgumentException" 7 ⟨"java/lang/RuntimeException", "<init>", "(Ljava/lang/String;)V"⟩, .instanceMethod ⟨"java/lang/RuntimeException", "<init>", "(Ljava/lang/String;)V"⟩, .declares ⟨"java/lang/RuntimeException", "<init>", "(Ljava/lang/String;)V"⟩, .instanceMethod ⟨"java/lang/RuntimeException", "<init>", "(Ljava/lang/String;)V"⟩, .code ⟨"java/lang/RuntimeException", "<init>", "(Ljava/lang/String;)V"⟩ Bundle.six 2 none, .methodLink "java/lang/RuntimeException" 7 ⟨"java/lang/Exception", "<init>", "(Ljava/lang/String;)V"⟩, .instanceMethod ⟨"java/lang/Exception", "<init>", "(Ljava/lang/String;)V"⟩, .declares ⟨"java/lang/Exception", "<init>", "(Ljava/lang/String;)V"⟩, .instanceMethod ⟨"java/lang/Exception", "<init>", "(Ljava/lang/String;)V"⟩, .code ⟨"java/lang/Exception", "<init>", "(Ljava/lang/String;)V"⟩ Bundle.six 2 none, .methodLink "java/lang/Exception" 7 ⟨"java/lang/Throwable", "<init>", "(Ljava/lang/String;)V"⟩, .instanceMethod ⟨"java/lang/Throwable", "<init>", "(Ljava/lang/String;)V"⟩, .declares ⟨"java/lang/Throwable", "<init>", "(Ljava/lang/String;)V"⟩, .methodLink "PipelineRunner" 39 ⟨"java/lang/IllegalArgumentException", "<init>", "(Ljava/lang/String;)V"⟩, .instantiable "java/lang/IllegalArgumentException" 6, .castable "java/lang/IllegalArgumentException" "java/lang/IllegalArgumentException", .selects "java/lang/IllegalArgumentException" ⟨"java/lang/Throwable", "fillInStackTrace", "(I)Ljava/lang/Throwable;"⟩ ⟨"java/lang/Throwable", "fillInStackTrace", "(I)Ljava/lang/Throwable;"⟩, .selects "java/lang/IllegalArgumentException" ⟨"java/lang/Throwable", "fillInStackTrace", "()Ljava/lang/Throwable;"⟩ ⟨"java/lang/Throwable", "fillInStackTrace", "()Ljava/lang/Throwable;"⟩, .lays "java/lang/IllegalArgumentException" "java/lang/Throwable" "cause" "Ljava/lang/Throwable;", .lays "java/lang/IllegalArgumentException" "java/lang/Throwable" "stackTrace" "[Ljava/lang/StackTraceElement;", .lays "java/lang/IllegalArgumentException" "java/lang/Throwable" "suppressedExceptions" "Ljava/util/List;", .lays "java/lang/IllegalArgumentException" "java/lang/Throwable" "detailMessage" "Ljava/lang/String;", .isRef (.static "java/lang/Throwable" "UNASSIGNED_STACK" "[Ljava/lang/StackTraceElement;"), .isRef (.static "java/lang/Throwable" "SUPPRESSED_SENTINEL" "Ljava/util/List;"), .fieldLink "java/lang/Throwable" 198 "java/lang/Throwable" "backtrace" "Ljava/lang/Object;", .lays "java/lang/Throwable" "java/lang/Throwable" "backtrace" "Ljava/lang/Object;", .lays "java/lang/IllegalArgumentException" "java/lang/Throwable" "backtrace" "Ljava/lang/Object;"] : List Cond), ax_no w := List.forall_mem_cons.mpr ⟨ax_tw1_0, List.forall_mem_cons.mpr ⟨ax_tw1_1, List.forall_mem_cons.mpr ⟨ax_tw1_2, List.forall_mem_cons.mpr ⟨ax_tw1_3, List.forall_mem_cons.mpr ⟨ax_tw1_4, List.forall_mem_cons.mpr ⟨ax_tw1_5, List.forall_mem_cons.mpr ⟨ax_tw1_6, List.forall_mem_cons.mpr ⟨ax_tw1_7, List.forall_mem_cons.mpr ⟨ax_tw1_8, List.forall_mem_cons.mpr ⟨ax_tw1_9, List.forall_mem_cons.mpr ⟨ax_tw1_10, List.forall_mem_cons.mpr ⟨ax_tw1_11, List.forall_mem_cons.mpr ⟨ax_tw1_12, List.forall_mem_cons.mpr ⟨ax_tw1_13, List.forall_mem_cons.mpr ⟨ax_tw1_14, List.forall_mem_cons.mpr ⟨ax_tw1_15, List.forall_mem_cons.mpr ⟨ax_tw1_16, List.forall_mem_cons.mpr ⟨ax_tw1_17, List.forall_mem_cons.mpr ⟨ax_tw1_18, List.forall_mem_cons.mpr ⟨ax_tw1_19, List.forall_mem_cons.mpr ⟨ax_tw1_20, List.forall_mem_cons.mpr ⟨ax_tw1_21, List.forall_mem_cons.mpr ⟨ax_tw1_22, List.forall_mem_cons.mpr ⟨ax_tw1_23, List.forall_mem_cons.mpr ⟨ax_tw1_24, List.forall_mem_cons.mpr ⟨ax_tw1_25, List.forall_mem_cons.mpr ⟨ax_tw1_26, List.forall_mem_cons.mpr ⟨ax_tw1_27, List.forall_mem_cons.mpr ⟨ax_tw1_28, List.forall_mem_cons.mpr ⟨ax_tw1_29, List.forall_mem_cons.mpr ⟨ax_tw1_30, List.forall_mem_cons.mpr ⟨ax_tw1_31, List.forall_mem_cons.mpr ⟨ax_tw1_32, List.forall_mem_cons.mpr ⟨ax_tw1_33, List.forall_mem_cons.mpr ⟨ax_tw1_34, List.forall_mem_cons.mpr ⟨ax_tw1_35, List.forall_mem_cons.mpr ⟨ax_tw1_36, List.forall_mem_cons.mpr ⟨ax_tw1_37, List.forall_mem_cons.mpr ⟨ax_tw1_38, List.forall_mem_cons.mpr ⟨ax_tw1_39, List.forall_mem_cons.mpr ⟨ax_tw1_40, List.forall_mem_cons.mpr ⟨ax_tw1_41, List.forall_mem_cons.mpr ⟨ax_tw1_42, List.forall_mem_cons.mpr ⟨ax_tw1_43, List.forall_mem_cons.mpr ⟨ax_tw1_44, List.forall_mem_cons.mpr ⟨ax_tw1_45, List.forall_mem_cons.mpr ⟨ax_tw1_46, List.forall_mem_cons.mpr ⟨ax_tw1_47, List.forall_mem_cons.mpr ⟨ax_tw1_48, List.forall_mem_cons.mpr ⟨ax_tw1_49, List.forall_mem_cons.mpr ⟨ax_tw1_50, List.forall_mem_cons.mpr ⟨ax_tw1_51, List.forall_mem_cons.mpr ⟨ax_tw1_52, List.forall_mem_cons.mpr ⟨ax_tw1_53, List.forall_mem_cons.mpr ⟨ax_tw1_54, List.forall_mem_cons.mpr ⟨ax_tw1_55, List.forall_mem_cons.mpr ⟨ax_tw1_56, fun _ h => absurd h List.not_mem_nil⟩⟩⟩⟩⟩⟩⟩⟩⟩⟩⟩⟩⟩⟩⟩⟩⟩⟩⟩⟩⟩⟩⟩⟩⟩⟩⟩⟩⟩⟩⟩⟩⟩⟩⟩⟩⟩⟩⟩⟩⟩⟩⟩⟩⟩⟩⟩⟩⟩⟩⟩⟩⟩⟩⟩⟩⟩
theorem ax_ta1 : ∀ w ∈ vx_atS "PipelineRunner" 39 "java/lang/IllegalArgumentException" ax_nms, ax_ow w := fun w h => ax_tl1 w (List.mem_filter.mp h).1 (List.mem_filter.mp h).2
theorem ax_tw2_0 : ax_no (.initialized "java/lang/Throwable") := fun _ => Or.inl ⟨ax_t1 (List.mem_of_getElem? (i := 6) rfl), rfl⟩
theorem ax_tw2_1 : ax_no (.superclass "java/lang/Throwable" "java/lang/Object") := fun _ => Or.inl ⟨ax_t1 (List.mem_of_getElem? (i := 132) rfl), rfl⟩
theorem ax_tw2_2 : ax_no (.instanceMethod ⟨"java/lang/Throwable", "fillInStackTrace", "()Ljava/lang/Throwable;"⟩) := fun _ => Or.inl ⟨ax_t1 (List.mem_of_getElem? (i := 141) rfl), rfl⟩
theorem ax_tw2_3 : ax_no (.codeSync ⟨"java/lang/Throwable", "fillInStackTrace", "()Ljava/lang/Throwable;"⟩ LibCode.Throwable.Fill.code 1 (some (.object "java/lang/Throwable"))) := fun _ => Or.inl ⟨ax_t1 (List.mem_of_getElem? (i := 145) rfl), rfl⟩
theorem ax_tw2_4 : ax_no (.instanceMethod ⟨"java/lang/Throwable", "fillInStackTrace", "(I)Ljava/lang/Throwable;"⟩) := fun _ => Or.inl ⟨ax_t1 (List.mem_of_getElem? (i := 148) rfl), rfl⟩
theorem ax_tw2_5 : ax_no (.native ⟨"java/lang/Throwable", "fillInStackTrace", "(I)Ljava/lang/Throwable;"⟩) := fun _ => Or.inl ⟨ax_t1 (List.mem_of_getElem? (i := 150) rfl), rfl⟩
theorem ax_tw2_6 : ax_no (.instanceMethod ⟨"java/lang/Throwable", "<init>", "()V"⟩) := fun _ => Or.inl ⟨ax_t1 (List.mem_of_getElem? (i := 133) rfl), rfl⟩
theorem ax_tw2_7 : ax_no (.code ⟨"java/lang/Throwable", "<init>", "()V"⟩ LibCode.Throwable.Init0.code 1 none) := fun _ => Or.inl ⟨ax_t1 (List.mem_of_getElem? (i := 134) rfl), rfl⟩
theorem ax_tw2_8 : ax_no (.instanceMethod ⟨"java/lang/Object", "<init>", "()V"⟩) := fun _ => Or.inl ⟨ax_t1 (List.mem_of_getElem? (i := 30) rfl), rfl⟩
theorem ax_tw2_9 : ax_no (.code ⟨"java/lang/Object", "<init>", "()V"⟩ ⟨#[0xb1]⟩ 1 none) := fun _ => Or.inl ⟨ax_t1 (List.mem_of_getElem? (i := 31) rfl), rfl⟩
theorem ax_tw2_10 : ax_no (.methodLink "java/lang/Throwable" 1 ⟨"java/lang/Object", "<init>", "()V"⟩) := fun _ => Or.inl ⟨ax_t1 (List.mem_of_getElem? (i := 135) rfl), rfl⟩
theorem ax_tw2_11 : ax_no (.methodLink "java/lang/Throwable" 27 ⟨"java/lang/Throwable", "fillInStackTrace", "()Ljava/lang/Throwable;"⟩) := fun _ => Or.inl ⟨ax_t1 (List.mem_of_getElem? (i := 140) rfl), rfl⟩
theorem ax_tw2_12 : ax_no (.methodLink "java/lang/Throwable" 202 ⟨"java/lang/Throwable", "fillInStackTrace", "(I)Ljava/lang/Throwable;"⟩) := fun _ => Or.inl ⟨ax_t1 (List.mem_of_getElem? (i := 146) rfl), rfl⟩
theorem ax_tw2_13 : ax_no (.fieldLink "java/lang/Throwable" 7 "java/lang/Throwable" "cause" "Ljava/lang/Throwable;") := fun _ => Or.inl ⟨ax_t1 (List.mem_of_getElem? (i := 166) rfl), rfl⟩
theorem ax_tw2_14 : ax_no (.lays "java/lang/Throwable" "java/lang/Throwable" "cause" "Ljava/lang/Throwable;") := fun _ => Or.inl ⟨ax_t1 (List.mem_of_getElem? (i := 122) rfl), rfl⟩
theorem ax_tw2_15 : ax_no (.fieldLink "java/lang/Throwable" 17 "java/lang/Throwable" "stackTrace" "[Ljava/lang/StackTraceElement;") := fun _ => Or.inl ⟨ax_t1 (List.mem_of_getElem? (i := 167) rfl), rfl⟩
theorem ax_tw2_16 : ax_no (.lays "java/lang/Throwable" "java/lang/Throwable" "stackTrace" "[Ljava/lang/StackTraceElement;") := fun _ => Or.inl ⟨ax_t1 (List.mem_of_getElem? (i := 124) rfl), rfl⟩
theorem ax_tw2_17 : ax_no (.fieldLink "java/lang/Throwable" 24 "java/lang/Throwable" "suppressedExceptions" "Ljava/util/List;") := fun _ => Or.inl ⟨ax_t1 (List.mem_of_getElem? (i := 168) rfl), rfl⟩
theorem ax_tw2_18 : ax_no (.lays "java/lang/Throwable" "java/lang/Throwable" "suppressedExceptions" "Ljava/util/List;") := fun _ => Or.inl ⟨ax_t1 (List.mem_of_getElem? (i := 126) rfl), rfl⟩
theorem ax_tw2_19 : ax_no (.fieldLink "java/lang/Throwable" 13 "java/lang/Throwable" "UNASSIGNED_STACK" "[Ljava/lang/StackTraceElement;") := fun _ => Or.inl ⟨ax_t1 (List.mem_of_getElem? (i := 136) rfl), rfl⟩
theorem ax_tw2_20 : ax_no (.laysStatic "java/lang/Throwable" "UNASSIGNED_STACK" "[Ljava/lang/StackTraceElement;") := fun h => absurd h (by unfold vx_no; simp [Bundle.tN, Bundle.steD, Bundle.listD])
theorem ax_tw2_21 : ax_no (.fieldLink "java/lang/Throwable" 20 "java/lang/Throwable" "SUPPRESSED_SENTINEL" "Ljava/util/List;") := fun _ => Or.inl ⟨ax_t1 (List.mem_of_getElem? (i := 138) rfl), rfl⟩
theorem ax_tw2_22 : ax_no (.laysStatic "java/lang/Throwable" "SUPPRESSED_SENTINEL" "Ljava/util/List;") := fun h => absurd h (by unfold vx_no; simp [Bundle.tN, Bundle.steD, Bundle.listD])
theorem ax_tw2_23 : ax_no (.lays "java/lang/Throwable" "java/lang/Throwable" "detailMessage" "Ljava/lang/String;") := fun _ => Or.inl ⟨ax_t1 (List.mem_of_getElem? (i := 128) rfl), rfl⟩
theorem ax_tw2_24 : ax_no (.instanceMethod ⟨"java/lang/Throwable", "<init>", "(Ljava/lang/String;)V"⟩) := fun _ => Or.inl ⟨ax_t1 (List.mem_of_getElem? (i := 162) rfl), rfl⟩
theorem ax_tw2_25 : ax_no (.code ⟨"java/lang/Throwable", "<init>", "(Ljava/lang/String;)V"⟩ LibCode.Throwable.InitS.code 2 none) := fun _ => Or.inl ⟨ax_t1 (List.mem_of_getElem? (i := 163) rfl), rfl⟩
theorem ax_tw2_26 : ax_no (.fieldLink "java/lang/Throwable" 31 "java/lang/Throwable" "detailMessage" "Ljava/lang/String;") := fun _ => Or.inl ⟨ax_t1 (List.mem_of_getElem? (i := 165) rfl), rfl⟩
theorem ax_tw2_27 : ax_no (.lays "java/lang/Throwable" "java/lang/Throwable" "detailMessage" "Ljava/lang/String;") := fun _ => Or.inl ⟨ax_t1 (List.mem_of_getElem? (i := 128) rfl), rfl⟩
theorem ax_tw2_28 : ax_no (.instanceMethod ⟨"java/lang/IllegalStateException", "<init>", "(Ljava/lang/String;)V"⟩) := fun _ => Or.inl ⟨ax_t1 (List.mem_of_getElem? (i := 212) rfl), rfl⟩
theorem ax_tw2_29 : ax_no (.code ⟨"java/lang/IllegalStateException", "<init>", "(Ljava/lang/String;)V"⟩ Bundle.six 2 none) := fun _ => Or.inl ⟨ax_t1 (List.mem_of_getElem? (i := 213) rfl), rfl⟩
theorem ax_tw2_30 : ax_no (.methodLink "java/lang/IllegalStateException" 7 ⟨"java/lang/RuntimeException", "<init>", "(Ljava/lang/String;)V"⟩) := fun _ => Or.inl ⟨ax_t1 (List.mem_of_getElem? (i := 214) rfl), rfl⟩
theorem ax_tw2_31 : ax_no (.instanceMethod ⟨"java/lang/RuntimeException", "<init>", "(Ljava/lang/String;)V"⟩) := fun _ => Or.inl ⟨ax_t1 (List.mem_of_getElem? (i := 156) rfl), rfl⟩
theorem ax_tw2_32 : ax_no (.declares ⟨"java/lang/RuntimeException", "<init>", "(Ljava/lang/String;)V"⟩) := fun _ => Or.inr (Or.inl ⟨_, List.mem_of_getElem? (i := 0) rfl, rfl⟩)
theorem ax_tw2_33 : ax_no (.instanceMethod ⟨"java/lang/RuntimeException", "<init>", "(Ljava/lang/String;)V"⟩) := fun _ => Or.inl ⟨ax_t1 (List.mem_of_getElem? (i := 156) rfl), rfl⟩
theorem ax_tw2_34 : ax_no (.code ⟨"java/lang/RuntimeException", "<init>", "(Ljava/lang/String;)V"⟩ Bundle.six 2 none) := fun _ => Or.inl ⟨ax_t1 (List.mem_of_getElem? (i := 157) rfl), rfl⟩
theorem ax_tw2_35 : ax_no (.methodLink "java/lang/RuntimeException" 7 ⟨"java/lang/Exception", "<init>", "(Ljava/lang/String;)V"⟩) := fun _ => Or.inl ⟨ax_t1 (List.mem_of_getElem? (i := 158) rfl), rfl⟩
theorem ax_tw2_36 : ax_no (.instanceMethod ⟨"java/lang/Exception", "<init>", "(Ljava/lang/String;)V"⟩) := fun _ => Or.inl ⟨ax_t1 (List.mem_of_getElem? (i := 159) rfl), rfl⟩
theorem ax_tw2_37 : ax_no (.declares ⟨"java/lang/Exception", "<init>", "(Ljava/lang/String;)V"⟩) := fun _ => Or.inr (Or.inl ⟨_, List.mem_of_getElem? (i := 1) rfl, rfl⟩)
theorem ax_tw2_38 : ax_no (.instanceMethod ⟨"java/lang/Exception", "<init>", "(Ljava/lang/String;)V"⟩) := fun _ => Or.inl ⟨ax_t1 (List.mem_of_getElem? (i := 159) rfl), rfl⟩
theorem ax_tw2_39 : ax_no (.code ⟨"java/lang/Exception", "<init>", "(Ljava/lang/String;)V"⟩ Bundle.six 2 none) := fun _ => Or.inl ⟨ax_t1 (List.mem_of_getElem? (i := 160) rfl), rfl⟩
theorem ax_tw2_40 : ax_no (.methodLink "java/lang/Exception" 7 ⟨"java/lang/Throwable", "<init>", "(Ljava/lang/String;)V"⟩) := fun _ => Or.inl ⟨ax_t1 (List.mem_of_getElem? (i := 161) rfl), rfl⟩
theorem ax_tw2_41 : ax_no (.instanceMethod ⟨"java/lang/Throwable", "<init>", "(Ljava/lang/String;)V"⟩) := fun _ => Or.inl ⟨ax_t1 (List.mem_of_getElem? (i := 162) rfl), rfl⟩
theorem ax_tw2_42 : ax_no (.declares ⟨"java/lang/Throwable", "<init>", "(Ljava/lang/String;)V"⟩) := fun _ => Or.inr (Or.inl ⟨_, List.mem_of_getElem? (i := 2) rfl, rfl⟩)
theorem ax_tw2_43 : ax_no (.methodLink "PipelineRunner" 53 ⟨"java/lang/IllegalStateException", "<init>", "(Ljava/lang/String;)V"⟩) := fun _ => Or.inl ⟨ax_t1 (List.mem_of_getElem? (i := 211) rfl), rfl⟩
theorem ax_tw2_44 : ax_no (.instantiable "java/lang/IllegalStateException" 6) := fun _ => Or.inl ⟨ax_t1 (List.mem_of_getElem? (i := 202) rfl), rfl⟩
theorem ax_tw2_45 : ax_no (.castable "java/lang/IllegalStateException" "java/lang/IllegalStateException") := fun _ => Or.inr (Or.inr ⟨_, List.mem_of_getElem? (i := 11) rfl, rfl⟩)
theorem ax_tw2_46 : ax_no (.selects "java/lang/IllegalStateException" ⟨"java/lang/Throwable", "fillInStackTrace", "(I)Ljava/lang/Throwable;"⟩ ⟨"java/lang/Throwable", "fillInStackTrace", "(I)Ljava/lang/Throwable;"⟩) := fun _ => Or.inl ⟨ax_t1 (List.mem_of_getElem? (i := 204) rfl), rfl⟩
theorem ax_tw2_47 : ax_no (.selects "java/lang/IllegalStateException" ⟨"java/lang/Throwable", "fillInStackTrace", "()Ljava/lang/Throwable;"⟩ ⟨"java/lang/Throwable", "fillInStackTrace", "()Ljava/lang/Throwable;"⟩) := fun _ => Or.inl ⟨ax_t1 (List.mem_of_getElem? (i := 143) rfl), rfl⟩
theorem ax_tw2_48 : ax_no (.lays "java/lang/IllegalStateException" "java/lang/Throwable" "cause" "Ljava/lang/Throwable;") := fun _ => Or.inl ⟨ax_t1 (List.mem_of_getElem? (i := 205) rfl), rfl⟩
theorem ax_tw2_49 : ax_no (.lays "java/lang/IllegalStateException" "java/lang/Throwable" "stackTrace" "[Ljava/lang/StackTraceElement;") := fun _ => Or.inl ⟨ax_t1 (List.mem_of_getElem? (i := 206) rfl), rfl⟩
theorem ax_tw2_50 : ax_no (.lays "java/lang/IllegalStateException" "java/lang/Throwable" "suppressedExceptions" "Ljava/util/List;") := fun _ => Or.inl ⟨ax_t1 (List.mem_of_getElem? (i := 207) rfl), rfl⟩
theorem ax_tw2_51 : ax_no (.lays "java/lang/IllegalStateException" "java/lang/Throwable" "detailMessage" "Ljava/lang/String;") := fun _ => Or.inl ⟨ax_t1 (List.mem_of_getElem? (i := 208) rfl), rfl⟩
theorem ax_tw2_52 : ax_no (.isRef (.static "java/lang/Throwable" "UNASSIGNED_STACK" "[Ljava/lang/StackTraceElement;")) := fun h => absurd h (by unfold vx_no; simp [Bundle.tN, Bundle.steD, Bundle.listD])
theorem ax_tw2_53 : ax_no (.isRef (.static "java/lang/Throwable" "SUPPRESSED_SENTINEL" "Ljava/util/List;")) := fun h => absurd h (by unfold vx_no; simp [Bundle.tN, Bundle.steD, Bundle.listD])
theorem ax_tw2_54 : ax_no (.fieldLink "java/lang/Throwable" 198 "java/lang/Throwable" "backtrace" "Ljava/lang/Object;") := fun _ => Or.inl ⟨ax_t1 (List.mem_of_getElem? (i := 131) rfl), rfl⟩
theorem ax_tw2_55 : ax_no (.lays "java/lang/Throwable" "java/lang/Throwable" "backtrace" "Ljava/lang/Object;") := fun _ => Or.inl ⟨ax_t1 (List.mem_of_getElem? (i := 130) rfl), rfl⟩
theorem ax_tw2_56 : ax_no (.lays "java/lang/IllegalStateException" "java/lang/Throwable" "backtrace" "Ljava/lang/Object;") := fun _ => Or.inl ⟨ax_t1 (List.mem_of_getElem? (i := 209) rfl), rfl⟩
theorem ax_tl2 : ∀ w ∈ ([.initialized "java/lang/Throwable", .superclass "java/lang/Throwable" "java/lang/Object", .instanceMethod ⟨"java/lang/Throwable", "fillInStackTrace", "()Ljava/lang/Throwable;"⟩, .codeSync ⟨"java/lang/Throwable", "fillInStackTrace", "()Ljava/lang/Throwable;"⟩ LibCode.Throwable.Fill.code 1 (some (.object "java/lang/Throwable")), .instanceMethod ⟨"java/lang/Throwable", "fillInStackTrace", "(I)Ljava/lang/Throwable;"⟩, .native ⟨"java/lang/Throwable", "fillInStackTrace", "(I)Ljava/lang/Throwable;"⟩, .instanceMethod ⟨"java/lang/Throwable", "<init>", "()V"⟩, .code ⟨"java/lang/Throwable", "<init>", "()V"⟩ LibCode.Throwable.Init0.code 1 none, .instanceMethod ⟨"java/lang/Object", "<init>", "()V"⟩, .code ⟨"java/lang/Object", "<init>", "()V"⟩ ⟨#[0xb1]⟩ 1 none, .methodLink "java/lang/Throwable" 1 ⟨"java/lang/Object", "<init>", "()V"⟩, .methodLink "java/lang/Throwable" 27 ⟨"java/lang/Throwable", "fillInStackTrace", "()Ljava/lang/Throwable;"⟩, .methodLink "java/lang/Throwable" 202 ⟨"java/lang/Throwable", "fillInStackTrace", "(I)Ljava/lang/Throwable;"⟩, .fieldLink "java/lang/Throwable" 7 "java/lang/Throwable" "cause" "Ljava/lang/Throwable;", .lays "java/lang/Throwable" "java/lang/Throwable" "cause" "Ljava/lang/Throwable;", .fieldLink "java/lang/Throwable" 17 "java/lang/Throwable" "stackTrace" "[Ljava/lang/StackTraceElement;", .lays "java/lang/Throwable" "java/lang/Throwable" "stackTrace" "[Ljava/lang/StackTraceElement;", .fieldLink "java/lang/Throwable" 24 "java/lang/Throwable" "suppressedExceptions" "Ljava/util/List;", .lays "java/lang/Throwable" "java/lang/Throwable" "suppressedExceptions" "Ljava/util/List;", .fieldLink "java/lang/Throwable" 13 "java/lang/Throwable" "UNASSIGNED_STACK" "[Ljava/lang/StackTraceElement;", .laysStatic "java/lang/Throwable" "UNASSIGNED_STACK" "[Ljava/lang/StackTraceElement;", .fieldLink "java/lang/Throwable" 20 "java/lang/Throwable" "SUPPRESSED_SENTINEL" "Ljava/util/List;", .laysStatic "java/lang/Throwable" "SUPPRESSED_SENTINEL" "Ljava/util/List;", .lays "java/lang/Throwable" "java/lang/Throwable" "detailMessage" "Ljava/lang/String;", .instanceMethod ⟨"java/lang/Throwable", "<init>", "(Ljava/lang/String;)V"⟩, .code ⟨"java/lang/Throwable", "<init>", "(Ljava/lang/String;)V"⟩ LibCode.Throwable.InitS.code 2 none, .fieldLink "java/lang/Throwable" 31 "java/lang/Throwable" "detailMessage" "Ljava/lang/String;", .lays "java/lang/Throwable" "java/lang/Throwable" "detailMessage" "Ljava/lang/String;", .instanceMethod ⟨"java/lang/IllegalStateException", "<init>", "(Ljava/lang/String;)V"⟩, .code ⟨"java/lang/IllegalStateException", "<init>", "(Ljava/lang/String;)V"⟩ Bundle.six 2 none, .methodLink "java/lang/IllegalStateException" 7 ⟨"java/lang/RuntimeException", "<init>", "(Ljava/lang/String;)V"⟩, .instanceMethod ⟨"java/lang/RuntimeException", "<init>", "(Ljava/lang/String;)V"⟩, .declares ⟨"java/lang/RuntimeException", "<init>", "(Ljava/lang/String;)V"⟩, .instanceMethod ⟨"java/lang/RuntimeException", "<init>", "(Ljava/lang/String;)V"⟩, .code ⟨"java/lang/RuntimeException", "<init>", "(Ljava/lang/String;)V"⟩ Bundle.six 2 none, .methodLink "java/lang/RuntimeException" 7 ⟨"java/lang/Exception", "<init>", "(Ljava/lang/String;)V"⟩, .instanceMethod ⟨"java/lang/Exception", "<init>", "(Ljava/lang/String;)V"⟩, .declares ⟨"java/lang/Exception", "<init>", "(Ljava/lang/String;)V"⟩, .instanceMethod ⟨"java/lang/Exception", "<init>", "(Ljava/lang/String;)V"⟩, .code ⟨"java/lang/Exception", "<init>", "(Ljava/lang/String;)V"⟩ Bundle.six 2 none, .methodLink "java/lang/Exception" 7 ⟨"java/lang/Throwable", "<init>", "(Ljava/lang/String;)V"⟩, .instanceMethod ⟨"java/lang/Throwable", "<init>", "(Ljava/lang/String;)V"⟩, .declares ⟨"java/lang/Throwable", "<init>", "(Ljava/lang/String;)V"⟩, .methodLink "PipelineRunner" 53 ⟨"java/lang/IllegalStateException", "<init>", "(Ljava/lang/String;)V"⟩, .instantiable "java/lang/IllegalStateException" 6, .castable "java/lang/IllegalStateException" "java/lang/IllegalStateException", .selects "java/lang/IllegalStateException" ⟨"java/lang/Throwable", "fillInStackTrace", "(I)Ljava/lang/Throwable;"⟩ ⟨"java/lang/Throwable", "fillInStackTrace", "(I)Ljava/lang/Throwable;"⟩, .selects "java/lang/IllegalStateException" ⟨"java/lang/Throwable", "fillInStackTrace", "()Ljava/lang/Throwable;"⟩ ⟨"java/lang/Throwable", "fillInStackTrace", "()Ljava/lang/Throwable;"⟩, .lays "java/lang/IllegalStateException" "java/lang/Throwable" "cause" "Ljava/lang/Throwable;", .lays "java/lang/IllegalStateException" "java/lang/Throwable" "stackTrace" "[Ljava/lang/StackTraceElement;", .lays "java/lang/IllegalStateException" "java/lang/Throwable" "suppressedExceptions" "Ljava/util/List;", .lays "java/lang/IllegalStateException" "java/lang/Throwable" "detailMessage" "Ljava/lang/String;", .isRef (.static "java/lang/Throwable" "UNASSIGNED_STACK" "[Ljava/lang/StackTraceElement;"), .isRef (.static "java/lang/Throwable" "SUPPRESSED_SENTINEL" "Ljava/util/List;"), .fieldLink "java/lang/Throwable" 198 "java/lang/Throwable" "backtrace" "Ljava/lang/Object;", .lays "java/lang/Throwable" "java/lang/Throwable" "backtrace" "Ljava/lang/Object;", .lays "java/lang/IllegalStateException" "java/lang/Throwable" "backtrace" "Ljava/lang/Object;"] : List Cond), ax_no w := List.forall_mem_cons.mpr ⟨ax_tw2_0, List.forall_mem_cons.mpr ⟨ax_tw2_1, List.forall_mem_cons.mpr ⟨ax_tw2_2, List.forall_mem_cons.mpr ⟨ax_tw2_3, List.forall_mem_cons.mpr ⟨ax_tw2_4, List.forall_mem_cons.mpr ⟨ax_tw2_5, List.forall_mem_cons.mpr ⟨ax_tw2_6, List.forall_mem_cons.mpr ⟨ax_tw2_7, List.forall_mem_cons.mpr ⟨ax_tw2_8, List.forall_mem_cons.mpr ⟨ax_tw2_9, List.forall_mem_cons.mpr ⟨ax_tw2_10, List.forall_mem_cons.mpr ⟨ax_tw2_11, List.forall_mem_cons.mpr ⟨ax_tw2_12, List.forall_mem_cons.mpr ⟨ax_tw2_13, List.forall_mem_cons.mpr ⟨ax_tw2_14, List.forall_mem_cons.mpr ⟨ax_tw2_15, List.forall_mem_cons.mpr ⟨ax_tw2_16, List.forall_mem_cons.mpr ⟨ax_tw2_17, List.forall_mem_cons.mpr ⟨ax_tw2_18, List.forall_mem_cons.mpr ⟨ax_tw2_19, List.forall_mem_cons.mpr ⟨ax_tw2_20, List.forall_mem_cons.mpr ⟨ax_tw2_21, List.forall_mem_cons.mpr ⟨ax_tw2_22, List.forall_mem_cons.mpr ⟨ax_tw2_23, List.forall_mem_cons.mpr ⟨ax_tw2_24, List.forall_mem_cons.mpr ⟨ax_tw2_25, List.forall_mem_cons.mpr ⟨ax_tw2_26, List.forall_mem_cons.mpr ⟨ax_tw2_27, List.forall_mem_cons.mpr ⟨ax_tw2_28, List.forall_mem_cons.mpr ⟨ax_tw2_29, List.forall_mem_cons.mpr ⟨ax_tw2_30, List.forall_mem_cons.mpr ⟨ax_tw2_31, List.forall_mem_cons.mpr ⟨ax_tw2_32, List.forall_mem_cons.mpr ⟨ax_tw2_33, List.forall_mem_cons.mpr ⟨ax_tw2_34, List.forall_mem_cons.mpr ⟨ax_tw2_35, List.forall_mem_cons.mpr ⟨ax_tw2_36, List.forall_mem_cons.mpr ⟨ax_tw2_37, List.forall_mem_cons.mpr ⟨ax_tw2_38, List.forall_mem_cons.mpr ⟨ax_tw2_39, List.forall_mem_cons.mpr ⟨ax_tw2_40, List.forall_mem_cons.mpr ⟨ax_tw2_41, List.forall_mem_cons.mpr ⟨ax_tw2_42, List.forall_mem_cons.mpr ⟨ax_tw2_43, List.forall_mem_cons.mpr ⟨ax_tw2_44, List.forall_mem_cons.mpr ⟨ax_tw2_45, List.forall_mem_cons.mpr ⟨ax_tw2_46, List.forall_mem_cons.mpr ⟨ax_tw2_47, List.forall_mem_cons.mpr ⟨ax_tw2_48, List.forall_mem_cons.mpr ⟨ax_tw2_49, List.forall_mem_cons.mpr ⟨ax_tw2_50, List.forall_mem_cons.mpr ⟨ax_tw2_51, List.forall_mem_cons.mpr ⟨ax_tw2_52, List.forall_mem_cons.mpr ⟨ax_tw2_53, List.forall_mem_cons.mpr ⟨ax_tw2_54, List.forall_mem_cons.mpr ⟨ax_tw2_55, List.forall_mem_cons.mpr ⟨ax_tw2_56, fun _ h => absurd h List.not_mem_nil⟩⟩⟩⟩⟩⟩⟩⟩⟩⟩⟩⟩⟩⟩⟩⟩⟩⟩⟩⟩⟩⟩⟩⟩⟩⟩⟩⟩⟩⟩⟩⟩⟩⟩⟩⟩⟩⟩⟩⟩⟩⟩⟩⟩⟩⟩⟩⟩⟩⟩⟩⟩⟩⟩⟩⟩⟩
theorem ax_ta2 : ∀ w ∈ vx_atS "PipelineRunner" 53 "java/lang/IllegalStateException" ax_nms, ax_ow w := fun w h => ax_tl2 w (List.mem_filter.mp h).1 (List.mem_filter.mp h).2
theorem ax_ta {E : Nat} (h : E < 3) : ∀ w ∈ Cond.classLink "PipelineRunner" (ax_ik E) (ax_xn E) :: Cond.initialized (ax_xn E) :: vx_atS "PipelineRunner" (ax_ic E) (ax_xn E) ax_nms, ax_ow w := by
  have hE : E = 0 ∨ E = 1 ∨ E = 2 := by omega
  rcases hE with rfl | rfl | rfl
  · exact List.forall_mem_cons.mpr ⟨Or.inl ⟨ax_t2 (List.mem_of_getElem? (i := 97) rfl), rfl⟩, List.forall_mem_cons.mpr ⟨Or.inl ⟨ax_t1 (List.mem_of_getElem? (i := 18) rfl), rfl⟩, ax_ta0⟩⟩
  · exact List.forall_mem_cons.mpr ⟨Or.inl ⟨ax_t1 (List.mem_of_getElem? (i := 110) rfl), rfl⟩, List.forall_mem_cons.mpr ⟨Or.inl ⟨ax_t1 (List.mem_of_getElem? (i := 9) rfl), rfl⟩, ax_ta1⟩⟩
  · exact List.forall_mem_cons.mpr ⟨Or.inl ⟨ax_t1 (List.mem_of_getElem? (i := 201) rfl), rfl⟩, List.forall_mem_cons.mpr ⟨Or.inl ⟨ax_t1 (List.mem_of_getElem? (i := 12) rfl), rfl⟩, ax_ta2⟩⟩
theorem ax_xfit {E : Nat} (h : E < 3) : Bundle.fit (ax_xn E) = true := by
  have hE : E = 0 ∨ E = 1 ∨ E = 2 := by omega
  rcases hE with rfl | rfl | rfl <;> decide +kernel
theorem ax_nfit : ∀ n ∈ ax_nms, Bundle.fit n = true := List.forall_mem_cons.mpr ⟨by decide +kernel, List.forall_mem_cons.mpr ⟨by decide +kernel, fun _ h => absurd h List.not_mem_nil⟩⟩
/-- the rows of the throws: their instructions -/
def ax_LTc (q : Nat × Nat × Nat × Nat × Nat × Nat × Nat × Nat) : Bool := match q with
  | (y, pc, E, ik, is, ic, w, _) => decide (decode (ax_b y) pc = .ok (.new ik, 3)) && decide (decode (ax_b y) (pc + 3) = .ok (.dup, 1)) && ((decide (decode (ax_b y) (pc + 4) = .ok (.ldc is, 2)) && Nat.beq w 2) || (decide (decode (ax_b y) (pc + 4) = .ok (.ldc_w is, 3)) && Nat.beq w 3)) && decide (decode (ax_b y) (pc + 4 + w) = .ok (.invokespecial ic, 3)) && decide (decode (ax_b y) (pc + 7 + w) = .ok (.athrow, 1)) && Nat.beq (ax_own y) 6 && Nat.blt E 3 && Nat.beq ic (ax_ic E) && Nat.beq ik (ax_ik E) && (ax_hh y).isEmpty
theorem ax_LTs : ax_LT.all ax_LTc = true := by decide +kernel
section
variable {p : Program} {l : Launch} {e : Env} {R : Room} {s : State} {m : MethodId} {args : Array Value} {below : List Frame} {meth : Method} {c : Code} {H : Heap} {locs : List Loc} {cells slots : Nat} {Q : State → Prop}
variable {B e0 mo d y pc : Nat} {D : va_G} {σ : SG} {sr : SR} {L st : List AV} {ls : Array Slot} {nx a b f : Nat}
theorem ax_mkS {cc : ByteArray} {rest : List Value} (hexec : p.tables.exec = Jvm.exec) (hb : c.code = cc) (hl : l.stackTraces = false) {own cls text : String} {names : List String} {ik is ic sa w : Nat} {A : Nat → Prop}
    (hown : s.vm.findClass own = some m.cls) (hcls : Bundle.fit cls = true) (hnames : ∀ n ∈ names, Bundle.fit n = true)
    (hk : (Cond.classLink own ik cls).before args s = true) (hini : (Cond.initialized cls).before args s = true) (hstr : vk_R own is text sa s) (hat : ∀ w ∈ vx_atS own ic cls names, w.before args s = true)
    (hgood : ∀ w ∈ Cond.classLink own ik cls :: Cond.initialized cls :: vx_atS own ic cls names, vx_ot w = true)
    (hU : vx_Zq Bundle.tN "UNASSIGNED_STACK" Bundle.steD A s s.heap) (hN : vx_Zq Bundle.tN "SUPPRESSED_SENTINEL" Bundle.listD A s s.heap) (hS : va_S A s.heap H locs) (hsize : ls.size = c.maxLocals)
    (d0 : decode cc pc = .ok (.new ik, 3)) (d3 : decode cc (pc + 3) = .ok (.dup, 1)) (d4 : (decode cc (pc + 4) = .ok (.ldc is, 2) ∧ w = 2) ∨ (decode cc (pc + 4) = .ok (.ldc_w is, 3) ∧ w = 3)) (d6 : decode cc (pc + 4 + w) = .ok (.invokespecial ic, 3))
    (hRframes : names.length + 3 < R.frames) (hRlocals : (rest.map fun v => v.category).sum + (13 * (names.length + 1) + 43) ≤ R.locals) (hRcells : cells + 1 ≤ R.cells) (hRslots : slots + 6 ≤ R.slots)
    (kk : ∀ (ce : Cell) (H1 : Heap), H1.size = H.size + 1 → (∀ q : Nat, q < H.size → H1[q]? = H[q]?) → H1[H.size]? = some ce → ce.vm = .none → s.vm.findClass cls = some ce.cls → W p l e R s m args below meth c H1 locs (cells + 1) (slots + 6) Q (F0 m (pc + 7 + w) ls (.ref H.size :: rest))) :
    W p l e R s m args below meth c H locs cells slots Q (F0 m pc ls rest) := by
  intro T hT X
  subst hT
  have htr : e.platform.stackTraces = false := (show e.platform.stackTraces = l.stackTraces by rw [X.admits.platform]).trans hl
  have Y := vx_rebase X (R' := { frames := R.frames, locals := R.locals, cells := 1, slots := 6 }) (Nat.le_refl _) (Nat.le_refl _) hRcells hRslots
  obtain ⟨s', hA'⟩ : ∃ z, z = (T.setVm s.vm).setFrames (.invoking m args :: below) := ⟨_, rfl⟩
  rw [← hA'] at Y
  have hvm : s'.vm = s.vm := by rw [hA']; rfl
  have hhp : s'.heap = T.heap := by rw [hA']; rfl
  have hW0 : s.WarmedH s'.vm := by rw [hvm]; exact State.WarmedH.refl s
  have hat' : ∀ w ∈ vx_atS own ic cls names, w.before args s' = true := fun w hw => vx_ot_at hW0 hvm.symm (hgood w (List.mem_cons_of_mem _ (List.mem_cons_of_mem _ hw))) (hat w hw)
  have hk' : (Cond.classLink own ik cls).before args s' = true := vx_ot_at hW0 hvm.symm (hgood _ List.mem_cons_self) hk
  have hini' : (Cond.initialized cls).before args s' = true := vx_ot_at hW0 hvm.symm (hgood _ (List.mem_cons_of_mem _ List.mem_cons_self)) hini
  have hU' : vx_Zq Bundle.tN "UNASSIGNED_STACK" Bundle.steD A s' s'.heap := by rw [hhp]; exact vx_Zq.moved hW0.alike (hU.kept hS.2.1)
  have hN' : vx_Zq Bundle.tN "SUPPRESSED_SENTINEL" Bundle.listD A s' s'.heap := by rw [hhp]; exact vx_Zq.moved hW0.alike (hN.kept hS.2.1)
  have h : ∀ w ∈ Bundle.ownAtoms own ic cls names, w.before args s' = true := vx_own hat' (vx_isRefq hU'.1) (vx_isRefq hN'.1) hU'.2.word hN'.2.word
  have hown' : s'.vm.findClass own = some m.cls := by rw [hvm]; exact hown
  have hins : (Cond.instantiable cls 6).before args s' = true := h _ (by simp [Bundle.ownAtoms])
  obtain ⟨vm₁, cX, kX, hfX, hkX, -, -, X₁, st1⟩ := Y.newCold hexec (own := own) (C := cls) (index := ik) (n := 6) hown' hk' hins hini'
    (g := F0 m pc ls rest) rfl (by rw [hb]; exact d0) (Nat.le_refl _) (Nat.le_refl _)
  generalize hT1 : (T.setVm vm₁).pushCell { cls := cX, slots := kX.instanceTypes.map defaultValue, vm := .none } = T1 at X₁ st1
  have hcat : (Value.ref T.heap.size).category = 1 := rfl
  have hcellA : T1.heap[T.heap.size]? = some (freshCell cX kX) := by rw [← hT1]; exact State.heap_pushCell_size _ _
  have d3' : decode c.code (pc + 3) = .ok (.dup, 1) := by rw [hb]; exact d3
  have hstr' : vk_R own is text sa s' := vk_R.warm hW0 hstr
  obtain ⟨V, ce, L9, Z, hL, hlt, hcl9, hvm9, st⟩ := vx_ctorMadeS X₁ hexec htr (own := own) (cls := cls) (names := names) (ic := ic) hown' hcls hnames h (fun x hx => nomatch hx) hfX hkX hcellA (by rw [hhp]; exact Nat.le_refl _) (msg := .ref sa) rfl
    (g := { method := m, pc := pc + 4 + w, locals := ls, stack := .ref sa :: .ref T.heap.size :: .ref T.heap.size :: rest, locked := none }) rfl hsize (rest := rest) rfl
    (by rw [hb]; exact d6) hRframes (by simp only [List.map_cons, List.sum_cons, hcat]; omega)
  have Z0 := Stand.forget (locs := []) Z (fun y hy => by rw [hL y hy, hhp]; exact Nat.le_refl _)
  obtain ⟨f1, f2⟩ := vx_frame Z0.same
  rw [hhp] at f1 f2
  have hcid : s.vm.findClass cls = some ce.cls := by
    rw [hcl9, ← hfX, hvm]
  have hh : (V.setCell T.heap.size ce).heap[T.heap.size]? = some ce := heapAt_setCell_self (s := V) ce hlt
  have hz : (V.setCell T.heap.size ce).heap.size = T.heap.size + 1 := by
    have h1 := Z0.heapSize
    rw [hhp] at h1
    have h2 : (V.setCell T.heap.size ce).heap.size = V.heap.size := size_setCell _ _ _
    refine Nat.le_antisymm h1 ?_
    rw [h2]; exact hlt
  subst hA'
  have X5 := vx_back9 X Y Z0
  have X6 : Stand p l e R s m args below meth c (V.setCell T.heap.size ce) locs (cells + 1) (slots + 6) := { X5 with same := X5.same.mono (by omega) (by omega) }
  obtain ⟨t, a1, b1⟩ := kk ce (V.setCell T.heap.size ce).heap hz (fun q hq => f2 q hq (fun z hz => nomatch hz)) hh hvm9 hcid _ rfl X6
  refine ⟨t, st1 _ ?_, b1⟩
  show Steps p.tables e below (T1.setTop { method := m, pc := pc + 3, locals := ls, stack := .ref T.heap.size :: rest, locked := none }) _
  jvm_step X₁.here [X₁.here.top, hexec, d3', Value.category]
  rcases d4 with ⟨d4, rfl⟩ | ⟨d4, rfl⟩
  · exact X₁.ldcString hexec (own := own) (text := text) (index := is) (a := sa) hown' hstr'.1 hstr'.2
      (g := { method := m, pc := pc + 4, locals := ls, stack := .ref T.heap.size :: .ref T.heap.size :: rest, locked := none }) rfl (by rw [hb]; exact d4) _ (st _ a1)
  · exact X₁.ldcStringW hexec (own := own) (text := text) (index := is) (a := sa) hown' hstr'.1 hstr'.2
      (g := { method := m, pc := pc + 4, locals := ls, stack := .ref T.heap.size :: .ref T.heap.size :: rest, locked := none }) rfl (by rw [hb]; exact d4) _ (st _ a1)
theorem ax_ogw {w : Cond} (h : ax_ow w) : vx_ot w = true := by
  rcases h with h | ⟨x, -, rfl⟩ | ⟨q, -, rfl⟩
  · unfold vx_ot
    rw [h.2]
    exact Bool.or_true _
  · rfl
  · rfl
theorem ax_obf {w : Cond} (hts : ∀ w ∈ axW, w.before args s = true) (hG : ax_G B e0 mo s s.heap) (h : ax_ow w) : w.before args s = true := by
  obtain ⟨-, -, -, -, -, -, -, -, g1, g2⟩ := hG
  rcases h with h | ⟨x, hx, rfl⟩ | ⟨q, hq, rfl⟩
  · exact hts _ (ax_in_W h)
  · exact va_Nw.use rfl (g1 x hx)
  · exact va_Nw.use rfl (g2 q hq)
theorem sq_throw {j : Nat} (hi : ax_LT.any (fun q => Nat.beq q.1 y && Nat.beq q.2.1 pc && Nat.beq q.2.2.1 a && Nat.beq q.2.2.2.1 j) = true) (hLs : L.length = ax_L y) (hs : ((match st with
        | [] => some (.inl (.inr (.inr (.inr (a, thrC σ)))))
        | _ => none : Option SM)).bind ax_pick = some sr) (hT : ax_Nx p l e R s m args below meth c Q B e0 mo d y pc D cells slots σ sr) (hC : ax_Cx p l R s m args meth c B e0 mo d y D) (hh : ax_hp B D σ s H) (hS : va_S (ax_GA B) s.heap H locs) (hlo : ax_lo ls L) : W p l e R s m args below meth c H locs cells slots Q (F0 m pc ls (st.map avV)) := by
  obtain ⟨hx, hb, hml, hown, hts, hnm, hK, hG, hB, hRf, hRl, hfl, htab, hlk⟩ := id hC
  
  split at hs
  · obtain rfl := ax_pick_go hs
    obtain ⟨⟨q1, q2, q3, q4, is, ic, w, pl⟩, hq, h2, h3⟩ := ax_any hi (List.all_eq_true.mp ax_LTs)
    simp only [Bool.and_eq_true] at h2
    obtain ⟨⟨⟨e1, e2⟩, e3⟩, e4⟩ := h2
    have e1 := ax_beq e1
    have e2 := ax_beq e2
    have e3 := ax_beq e3
    have e4 := ax_beq e4
    subst e1; subst e2; subst e3; subst e4
    unfold ax_LTc at h3
    simp only [Bool.and_eq_true, Bool.or_eq_true, decide_eq_true_eq] at h3
    obtain ⟨⟨⟨⟨⟨⟨⟨⟨⟨d0, d3⟩, d4⟩, d6⟩, d9⟩, ho⟩, hE⟩, hic⟩, hik⟩, hh9⟩ := h3
    have hh9 := List.isEmpty_iff.mp hh9
    have hE := Nat.blt_eq.mp hE
    have hic := ax_beq hic
    have hik := ax_beq hik
    have ho := ax_beq ho
    have ho2 : ax_on (ax_own q1) = "PipelineRunner" := by rw [ho]; rfl
    rw [ho2] at hown
    subst hic; subst hik
    have hgw := ax_ta hE
    have hbf := fun w hw => ax_obf hts hG (hgw w hw)
    obtain ⟨hd6, hc, hsl, hT⟩ := hT
    obtain ⟨-, hU, hN, -, -, -, hTx, -⟩ := hG
    obtain ⟨sa, hsa⟩ := hTx _ hq
    dsimp only at hsa
    refine ax_mkS (rest := []) (names := ax_nms) (w := w) hx hb hfl hown (ax_xfit hE) ax_nfit (hbf _ List.mem_cons_self) (hbf _ (List.mem_cons_of_mem _ List.mem_cons_self)) hsa (fun w hw => hbf w (List.mem_cons_of_mem _ (List.mem_cons_of_mem _ hw))) (fun w hw => ax_ogw (hgw w hw)) hU hN hS (by rw [hlo.1, hLs, hml]) d0 d3 (d4.imp (fun z => ⟨z.1, ax_beq z.2⟩) (fun z => ⟨z.1, ax_beq z.2⟩)) d6 (by show 2 + 3 < R.frames; omega) (by show 0 + (13 * (2 + 1) + 43) ≤ R.locals; omega) hc hsl fun ce H1 z1 o1 g1 g2 g3 => ?_
    exact vx_athrow hx hb d9 (hT _ H1 locs ls [] ce H.size hE hh9 (hh.thr z1 o1) (ax_grow hS z1 o1) g1 g2 g3)
  · cases hs
theorem ax_kcast {k : Nat} (h : k < 9) : (ax_kn k, "java/lang/Object") ∈ ax_nc := by
  have hE : k = 0 ∨ k = 1 ∨ k = 2 ∨ k = 3 ∨ k = 4 ∨ k = 5 ∨ k = 6 ∨ k = 7 ∨ k = 8 := by omega
  rcases hE with rfl | rfl | rfl | rfl | rfl | rfl | rfl | rfl | rfl
  · exact List.mem_of_getElem? (i := 0) rfl
  · exact List.mem_of_getElem? (i := 1) rfl
  · exact List.mem_of_getElem? (i := 2) rfl
  · exact List.mem_of_getElem? (i := 3) rfl
  · exact List.mem_of_getElem? (i := 4) rfl
  · exact List.mem_of_getElem? (i := 5) rfl
  · exact List.mem_of_getElem? (i := 6) rfl
  · exact List.mem_of_getElem? (i := 7) rfl
  · exact List.mem_of_getElem? (i := 8) rfl
/-- an object that fits a row of references -/
theorem ax_fits {k v : Nat} (hG : ax_G B e0 mo s s.heap) (hK : va_K D ax_cl [] s) (hk : k = 23 ∨ k = 24) (hh : ax_hp B D σ s H) (h : ax_fitR σ k v) (hv : v ≠ 0) : ∃ (q : Nat) (cv : Cell), v = q + 1 ∧ H[q]? = some cv ∧ cv.vm = .none ∧ (∃ kv, s.vm.classes[cv.cls]? = some kv) ∧ ∀ comp, s.vm.findClass (ax_an k) = some comp → s.vm.assignable cv.cls comp = true := by
  have key : ∃ j, (sgK σ v).1 = j ∧ j < 9 ∧ (k = 23 ∨ j = 2) := by
    rcases h with h | ⟨h1, h2⟩ | h
    · exact absurd h hv
    · exact ⟨_, rfl, h2, Or.inl h1⟩
    · exact ⟨_, rfl, by omega, Or.inr h⟩
  obtain ⟨j, h1, h2, h3⟩ := key
  obtain ⟨q, rfl, -, cv, q1, q2, q3, -⟩ := hh.2.1 v (by omega)
  rw [h1] at q2
  obtain ⟨-, hcl⟩ := hK.1 j _ (ax_clk j h2)
  obtain ⟨hfc, kC, hkC, -⟩ := id hcl
  refine ⟨q, cv, rfl, q1, q3, ⟨kC, by rw [q2]; exact hkC⟩, fun comp hcomp => ?_⟩
  rcases h3 with rfl | rfl
  · obtain ⟨c1, t1, f1, f2, f3⟩ := Cond.castable_spec (va_Nw.use (A := #[]) rfl (hG.2.2.2.2.2.2.2.2.2 _ (ax_kcast h2)))
    have e1 : s.vm.findClass (ax_kn j) = some (D.1 j) := hfc
    cases e1.symm.trans f1
    have e2 : s.vm.findClass "java/lang/Object" = some comp := hcomp
    cases e2.symm.trans f2
    rw [q2]; exact f3
  · rcases hk with rfl | rfl
    · obtain ⟨c1, t1, f1, f2, f3⟩ := Cond.castable_spec (va_Nw.use (A := #[]) rfl (hG.2.2.2.2.2.2.2.2.2 _ (ax_kcast h2)))
      have e1 : s.vm.findClass (ax_kn 2) = some (D.1 2) := hfc
      cases e1.symm.trans f1
      have e2 : s.vm.findClass "java/lang/Object" = some comp := hcomp
      cases e2.symm.trans f2
      rw [q2]; exact f3
    · have e1 : s.vm.findClass "PipelineRunner$Job" = some (D.1 2) := hfc
      have e2 : s.vm.findClass "PipelineRunner$Job" = some comp := hcomp
      cases e1.symm.trans e2
      rw [q2]
      exact va_asg _ _
theorem sq_astR (hd : decode (ax_b y) pc = .ok (.aastore, 1)) (hn : nx = pc + 1) (ha : a = 23 ∨ a = 24) (hs : (ax_astR nx a L st σ).bind ax_pick = some sr) (hT : ax_Nx p l e R s m args below meth c Q B e0 mo d y pc D cells slots σ sr) (hC : ax_Cx p l R s m args meth c B e0 mo d y D) (hh : ax_hp B D σ s H) (hS : va_S (ax_GA B) s.heap H locs) (hlo : ax_lo ls L) : W p l e R s m args below meth c H locs cells slots Q (F0 m pc ls (st.map avV)) := by
  obtain ⟨hx, hb, hml, hown, hts, hnm, hK, hG, hB, hRf, hRl, hfl, htab, hlk⟩ := id hC
  
  subst hn
  unfold ax_astR at hs
  split at hs
  · rename_i x i r st'
    obtain ⟨⟨hfit, h0⟩, rfl⟩ := ax_pick_gd hs
    obtain ⟨q, cell, q1, qB, q3, q4, q5, q6, q7, qi, q0, q8, q9, q10⟩ := ax_row hh h0 (by omega) (by omega)
    subst q1
    have hat : ax_aty a = .object (ax_an a) := by rcases ha with rfl | rfl <;> rfl
    have fin : ∀ H1 : Heap, H1[q]? = some (cell.setSlot i.toNatClampNeg (va_rf (avr x))) → H1.size = H.size → (∀ z, z ≠ q → H1[z]? = H[z]?) → W p l e R s m args below meth c H1 (locs ++ [⟨q, i.toNatClampNeg⟩]) cells slots Q (F0 m (pc + 1) ls (st'.map avV)) := fun H1 g1 g2 g3 =>
      hT.same rfl rfl (hh.row h0.1 (by omega) (by omega) rfl qB q4 q5 q6 qi q9 q10 rfl (fun _ => rfl) (putR_fv σ x) (putR_es σ x ha) g1 g2 g3) (hS.put g2 g3 (qB (by omega))) hlo
    by_cases hx0 : x = 0
    · subst hx0
      exact va_WaastN (C := ax_an a) hx hb q3 (by rw [← hat]; exact q4) q5 q7 rfl rfl hd fin
    · obtain ⟨v, cv, rfl, g1, g2, ⟨kv, g3⟩, g4⟩ := ax_fits hG hK ha hh hfit hx0
      obtain ⟨hRA, hvm⟩ := q10 ha
      rw [hat] at hRA
      obtain ⟨kA, comp, k1, k2, k3, -⟩ := hRA
      obtain ⟨kE, hkE, -⟩ := Vm.findClass_spec k3
      exact W.aast hx hb q3 (fun q h => by rw [hvm] at h; cases h) q5 k1 k2 rfl hkE ⟨q0, qi⟩ g1 (fun q h => by rw [g2] at h; cases h) g3 (g4 _ k3) rfl rfl hd fin
  · cases hs
theorem sq_copy {j : Nat} (hi : ax_LO.any (fun q => Nat.beq q.1 (ax_own y) && Nat.beq q.2.1 j && Nat.beq q.2.2.1 2) = true) (hd : decode (ax_b y) pc = .ok (.invokestatic j, 3)) (hn : nx = pc + 3) (hLs : L.length = ax_L y) (hs : (ax_copy nx L st σ).bind ax_pick = some sr) (hT : ax_Nx p l e R s m args below meth c Q B e0 mo d y pc D cells slots σ sr) (hC : ax_Cx p l R s m args meth c B e0 mo d y D) (hh : ax_hp B D σ s H) (hS : va_S (ax_GA B) s.heap H locs) (hlo : ax_lo ls L) : W p l e R s m args below meth c H locs cells slots Q (F0 m pc ls (st.map avV)) := by
  obtain ⟨hx, hb, hml, hown, hts, hnm, hK, hG, hB, hRf, hRl, hfl, htab, hlk⟩ := id hC
  
  subst hn
  unfold ax_copy at hs
  split at hs
  · rename_i n dp dst sp src st'
    obtain ⟨⟨h0, hk0, hk1, h1, h2, h3, h4, h5, hz0, hz1, hel⟩, rfl⟩ := ax_pick_gd hs
    have nn : ∀ z : Int32, ¬ z < 0 → z.toInt = (z.toNatClampNeg : Int) := by
      intro z hz
      have hz0 : (0 : Int) ≤ z.toInt := by
        have := Int32.not_lt.mp hz
        simpa using Int32.le_iff_toInt_le.mp this
      show z.toInt = ((z.toInt.toNat : Nat) : Int)
      omega
    obtain ⟨a0, c0, rfl, -, p3, p4, p5, p6, p7, p8⟩ := hh.2.2 src (by rw [hk0]; decide) (by rw [hk0]; decide)
    obtain ⟨a1, c1, rfl, qB, q3, q4, q5, q6, q7, q8⟩ := hh.2.2 dst (by rw [hk1]; decide) (by rw [hk1]; decide)
    rw [hk0] at p4 p7 p8
    rw [hk1] at q4 q7 q8 qB
    have qB := qB (by decide) (by omega)
    obtain ⟨pRA, pvm⟩ := p8 (Or.inl rfl) (by omega)
    obtain ⟨qRA, qvm⟩ := q8 (Or.inl rfl) (by omega)
    have p6 := p6.1 (by omega)
    have q6 := q6.1 (by omega)
    have hkd0 := p4
    have hkd1 := q4
    obtain ⟨-, k0, hkk0, cm0, hkd0⟩ := hkd0
    obtain ⟨-, k1, hkk1, cm1, hkd1⟩ := hkd1
    intro T hTe X
    obtain ⟨vm', X', step⟩ := X.arraycopy hx hown (hts _ (ax_in_W (ax_lo_any hi))) (hts _ (ax_in_W ax_ntA)) (hts _ (ax_in_W ax_stA)) (hts _ (ax_in_W ax_inA)) (src := a0) (dst := a1) (cs := c0) (cd := c1) (srcPos := sp) (destPos := dp) (n := n) (by rw [hTe]; exact p3) (by rw [hTe]; exact q3)
      (fun _ h => by rw [pvm] at h; cases h) (fun _ h => by rw [qvm] at h; cases h) (fun h => by rw [pvm] at h; cases h) (fun h => by rw [qvm] at h; cases h) hkk0 hkk1 hkd0 hkd1 rfl h1 h2 h3
      (by rw [nn sp h1, nn n h3, p6]; omega)
      (by rw [nn dp h2, nn n h3, q6]; omega)
      (fun vm₁ hal i hi => by
        have e : c0.slots.getD (sp.toNatClampNeg + i) .null = va_rf (avr (sgR σ 23 (sp.toNatClampNeg + i) (a0 + 1))) := by
          rw [Array.getD_eq_getD_getElem?, p7 _ (by omega)]
          rfl
        rw [e]
        by_cases hx0 : sgR σ 23 (sp.toNatClampNeg + i) (a0 + 1) = 0
        · rw [hx0]; exact ⟨rfl, trivial⟩
        · obtain ⟨v, cv, ev, g1, g2, ⟨kv, g3⟩, g4⟩ := ax_fits (k := 23) hG hK (Or.inl rfl) hh (hel i hi) hx0
          obtain ⟨kA, comp, r1, r2, r3, -⟩ := qRA
          cases hkk1.symm.trans r1
          cases hkd1.symm.trans r2
          obtain ⟨kE, hkE, -⟩ := Vm.findClass_spec r3
          obtain ⟨kC', hkC', -⟩ := hal.2.2 _ _ g3
          obtain ⟨kE', hkE', -⟩ := hal.2.2 _ _ hkE
          rw [ev]
          refine ⟨rfl, cv, (show T.heap[v]? = some cv by rw [hTe]; exact g1), (fun q h => by rw [g2] at h; cases h), ⟨kC', hkC'⟩, ⟨kE', hkE'⟩, ?_⟩
          show vm₁.assignable _ _ = true
          rw [hal.assignable]
          exact g4 _ r3)
      (g := F0 m pc ls (.int n :: .int dp :: .ref a1 :: .int sp :: .ref a0 :: st'.map avV)) rfl (by rw [hml]; show ls.size = _; rw [hlo.1, hLs]) (rest := st'.map avV) rfl (by rw [hb]; exact hd) (by omega) (by show 2 * 0 + _ + _ ≤ _; rw [ax_wt_eq]; show 2 * 0 + _ + (5 + 2 + 11) ≤ _; omega)
    generalize hcp : copied c0 c1 sp dp n = cp at X' step
    have hcp' : c1.storeRun dp.toNatClampNeg (c0.stretch sp.toNatClampNeg n.toNatClampNeg) = cp := hcp
    have hlen : (c0.stretch sp.toNatClampNeg n.toNatClampNeg).length = n.toNatClampNeg := by unfold Cell.stretch; simp
    obtain ⟨f1, f2, f3, -, -⟩ := Cell.storeRun_facts c1 dp.toNatClampNeg (c0.stretch sp.toNatClampNeg n.toNatClampNeg)
    have f4 := fun j => Cell.storeRun_get c1 dp.toNatClampNeg (c0.stretch sp.toNatClampNeg n.toNatClampNeg) j (by rw [hlen, q6]; exact h5)
    rw [hcp'] at f1 f2 f3 f4
    rw [hlen] at f4
    have hl : a1 < H.size := (Array.getElem?_eq_some_iff.mp q3).1
    have hheap : ((T.setVm vm').setCell a1 cp).heap = H.setIfInBounds a1 cp := by rw [← hTe]; rfl
    have oq : ∀ q : Nat, q ≠ a1 → (H.setIfInBounds a1 cp)[q]? = H[q]? := fun q hq => by simp [Array.getElem?_setIfInBounds, Ne.symm hq]
    have hcR : ∀ k i q, sgR (cpyC σ (a0 + 1) sp.toNatClampNeg (a1 + 1) dp.toNatClampNeg n.toNatClampNeg) k i q = if k = 23 ∧ q = a1 + 1 then va_cpy (fun j => sgR σ 23 j (a0 + 1)) (fun j => sgR σ 23 j (a1 + 1)) sp.toNatClampNeg dp.toNatClampNeg n.toNatClampNeg i else sgR σ k i q := fun _ _ _ => rfl
    have hp : ax_hp B D (cpyC σ (a0 + 1) sp.toNatClampNeg (a1 + 1) dp.toNatClampNeg n.toNatClampNeg) s (H.setIfInBounds a1 cp) := by
      refine hh.upd (r := a1 + 1) (a := a1) rfl rfl (fun _ => rfl) (fun q hq k i => ?_) (by simp) oq (fun h => ?_) (fun _ _ => ?_)
      · have e : sgR (cpyC σ (a0 + 1) sp.toNatClampNeg (a1 + 1) dp.toNatClampNeg n.toNatClampNeg) k i q = sgR σ k i q := by rw [hcR, if_neg (fun z => hq z.2)]
        unfold ax_fv ax_ev
        rw [e]
        exact ⟨rfl, rfl⟩
      · have h' : (sgK σ (a1 + 1)).1 < 9 := h
        omega
      · have hk1' : (sgK (cpyC σ (a0 + 1) sp.toNatClampNeg (a1 + 1) dp.toNatClampNeg n.toNatClampNeg) (a1 + 1)) = sgK σ (a1 + 1) := rfl
        rw [hk1', hk1]
        refine ⟨a1, cp, rfl, fun _ _ => qB, by simp [Array.getElem?_setIfInBounds, hl], ?_, by rw [f2]; exact q5, ⟨fun _ => by rw [f3]; exact q6, by rw [f3, q6]⟩, fun j hj => ?_, fun _ _ => ⟨by rw [f1]; exact qRA, by rw [f2]; exact qvm⟩⟩
        · unfold State.isArrayOf at q4 ⊢
          rw [f1, f2]
          exact q4
        · have e : ax_ev (cpyC σ (a0 + 1) sp.toNatClampNeg (a1 + 1) dp.toNatClampNeg n.toNatClampNeg) 23 j (a1 + 1) = va_rf (avr (sgR (cpyC σ (a0 + 1) sp.toNatClampNeg (a1 + 1) dp.toNatClampNeg n.toNatClampNeg) 23 j (a1 + 1))) := rfl
          have e2 : sgR (cpyC σ (a0 + 1) sp.toNatClampNeg (a1 + 1) dp.toNatClampNeg n.toNatClampNeg) 23 j (a1 + 1) = va_cpy (fun j => sgR σ 23 j (a0 + 1)) (fun j => sgR σ 23 j (a1 + 1)) sp.toNatClampNeg dp.toNatClampNeg n.toNatClampNeg j := by rw [hcR, if_pos ⟨rfl, rfl⟩]
          rw [f4 j, e, e2]
          unfold va_cpy
          by_cases z : dp.toNatClampNeg ≤ j ∧ j < dp.toNatClampNeg + n.toNatClampNeg
          · rw [if_pos z, if_pos z]
            unfold Cell.stretch
            rw [List.getElem?_map, List.getElem?_range (by omega)]
            show some (c0.slots.getD _ _) = _
            rw [Array.getD_eq_getD_getElem?, p7 _ (by omega)]
            rfl
          · rw [if_neg z, if_neg z]
            exact q7 j hj
    have hS1 : ∀ locs1 : List Loc, (∀ q ∈ locs1, q ∈ locs ∨ q.base = a1) → va_S (ax_GA B) s.heap (H.setIfInBounds a1 cp) locs1 := fun locs1 hl1 => ⟨by simp; exact hS.1, fun q g1 g2 => by
        rw [oq q (fun e => g2 (by rw [e]; exact qB))]
        exact hS.2.1 q g1 g2, fun q hq => by
        rcases hl1 q hq with h | h
        · exact hS.2.2 q h
        · rw [h]; exact qB⟩
    obtain ⟨t, a1', b1⟩ := hT.same rfl rfl hp (hS1 _ (fun q hq => by
        rcases List.mem_append.mp hq with h | h
        · exact Or.inl h
        · obtain ⟨z, -, hz⟩ := List.mem_map.mp h
          exact Or.inr (by rw [← hz]))) hlo _ hheap X'
    exact ⟨t, step t a1', b1⟩
  · cases hs
end
end AXQ
