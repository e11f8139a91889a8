theorem gw17 : (Jvm.Cond.initialized "java/lang/Throwable") ∈ GW := gw_t1 (List.mem_of_getElem? (i := 17) rfl) rfl
theorem gw500 : (Jvm.Cond.superclass "java/lang/Throwable" "java/lang/Object") ∈ GW := gw_t3 (List.mem_of_getElem? (i := 20) rfl) rfl
theorem gw509 : (Jvm.Cond.instanceMethod ({ cls := "java/lang/Throwable", name := "fillInStackTrace", desc := "()Ljava/lang/Throwable;" } : Jvm.MethodName)) ∈ GW := gw_t3 (List.mem_of_getElem? (i := 29) rfl) rfl
theorem gw515 : (Jvm.Cond.codeSync ({ cls := "java/lang/Throwable", name := "fillInStackTrace", desc := "()Ljava/lang/Throwable;" } : Jvm.MethodName) prog_24_method_18_code (1 : Nat) (Option.some (Jvm.ClassFile.FieldType.object "java/lang/Throwable"))) ∈ GW := gw_t3 (List.mem_of_getElem? (i := 35) rfl) rfl
theorem gw518 : (Jvm.Cond.instanceMethod ({ cls := "java/lang/Throwable", name := "fillInStackTrace", desc := "(I)Ljava/lang/Throwable;" } : Jvm.MethodName)) ∈ GW := gw_t3 (List.mem_of_getElem? (i := 38) rfl) rfl
theorem gw520 : (Jvm.Cond.native ({ cls := "java/lang/Throwable", name := "fillInStackTrace", desc := "(I)Ljava/lang/Throwable;" } : Jvm.MethodName)) ∈ GW := gw_t3 (List.mem_of_getElem? (i := 40) rfl) rfl
theorem gw501 : (Jvm.Cond.instanceMethod ({ cls := "java/lang/Throwable", name := "<init>", desc := "()V" } : Jvm.MethodName)) ∈ GW := gw_t3 (List.mem_of_getElem? (i := 21) rfl) rfl
theorem gw502 : (Jvm.Cond.code ({ cls := "java/lang/Throwable", name := "<init>", desc := "()V" } : Jvm.MethodName) prog_24_method_1_code (1 : Nat) (Option.none : Option Jvm.ClassFile.FieldType)) ∈ GW := gw_t3 (List.mem_of_getElem? (i := 22) rfl) rfl
theorem gw33 : (Jvm.Cond.instanceMethod ({ cls := "java/lang/Object", name := "<init>", desc := "()V" } : Jvm.MethodName)) ∈ GW := gw_t1 (List.mem_of_getElem? (i := 33) rfl) rfl
theorem gw34 : (Jvm.Cond.code ({ cls := "java/lang/Object", name := "<init>", desc := "()V" } : Jvm.MethodName) object_method_1_code (1 : Nat) (Option.none : Option Jvm.ClassFile.FieldType)) ∈ GW := gw_t1 (List.mem_of_getElem? (i := 34) rfl) rfl
theorem gw503 : (Jvm.Cond.methodLink "java/lang/Throwable" (1 : Nat) ({ cls := "java/lang/Object", name := "<init>", desc := "()V" } : Jvm.MethodName)) ∈ GW := gw_t3 (List.mem_of_getElem? (i := 23) rfl) rfl
theorem gw508 : (Jvm.Cond.methodLink "java/lang/Throwable" (27 : Nat) ({ cls := "java/lang/Throwable", name := "fillInStackTrace", desc := "()Ljava/lang/Throwable;" } : Jvm.MethodName)) ∈ GW := gw_t3 (List.mem_of_getElem? (i := 28) rfl) rfl
theorem gw516 : (Jvm.Cond.methodLink "java/lang/Throwable" (202 : Nat) ({ cls := "java/lang/Throwable", name := "fillInStackTrace", desc := "(I)Ljava/lang/Throwable;" } : Jvm.MethodName)) ∈ GW := gw_t3 (List.mem_of_getElem? (i := 36) rfl) rfl
theorem gw532 : (Jvm.Cond.fieldLink "java/lang/Throwable" (7 : Nat) "java/lang/Throwable" "cause" "Ljava/lang/Throwable;") ∈ GW := gw_t3 (List.mem_of_getElem? (i := 52) rfl) rfl
theorem gw490 : (Jvm.Cond.lays "java/lang/Throwable" "java/lang/Throwable" "cause" "Ljava/lang/Throwable;") ∈ GW := gw_t3 (List.mem_of_getElem? (i := 10) rfl) rfl
theorem gw533 : (Jvm.Cond.fieldLink "java/lang/Throwable" (17 : Nat) "java/lang/Throwable" "stackTrace" "[Ljava/lang/StackTraceElement;") ∈ GW := gw_t3 (List.mem_of_getElem? (i := 53) rfl) rfl
theorem gw492 : (Jvm.Cond.lays "java/lang/Throwable" "java/lang/Throwable" "stackTrace" "[Ljava/lang/StackTraceElement;") ∈ GW := gw_t3 (List.mem_of_getElem? (i := 12) rfl) rfl
theorem gw534 : (Jvm.Cond.fieldLink "java/lang/Throwable" (24 : Nat) "java/lang/Throwable" "suppressedExceptions" "Ljava/util/List;") ∈ GW := gw_t3 (List.mem_of_getElem? (i := 54) rfl) rfl
theorem gw494 : (Jvm.Cond.lays "java/lang/Throwable" "java/lang/Throwable" "suppressedExceptions" "Ljava/util/List;") ∈ GW := gw_t3 (List.mem_of_getElem? (i := 14) rfl) rfl
theorem gw504 : (Jvm.Cond.fieldLink "java/lang/Throwable" (13 : Nat) "java/lang/Throwable" "UNASSIGNED_STACK" "[Ljava/lang/StackTraceElement;") ∈ GW := gw_t3 (List.mem_of_getElem? (i := 24) rfl) rfl
theorem gw506 : (Jvm.Cond.fieldLink "java/lang/Throwable" (20 : Nat) "java/lang/Throwable" "SUPPRESSED_SENTINEL" "Ljava/util/List;") ∈ GW := gw_t3 (List.mem_of_getElem? (i := 26) rfl) rfl
theorem gw496 : (Jvm.Cond.lays "java/lang/Throwable" "java/lang/Throwable" "detailMessage" "Ljava/lang/String;") ∈ GW := gw_t3 (List.mem_of_getElem? (i := 16) rfl) rfl
theorem gw522 : (Jvm.Cond.instanceMethod ({ cls := "java/lang/IllegalArgumentException", name := "<init>", desc := "()V" } : Jvm.MethodName)) ∈ GW := gw_t3 (List.mem_of_getElem? (i := 42) rfl) rfl
theorem gw523 : (Jvm.Cond.code ({ cls := "java/lang/IllegalArgumentException", name := "<init>", desc := "()V" } : Jvm.MethodName) prog_15_method_1_code (1 : Nat) (Option.none : Option Jvm.ClassFile.FieldType)) ∈ GW := gw_t3 (List.mem_of_getElem? (i := 43) rfl) rfl
theorem gw524 : (Jvm.Cond.methodLink "java/lang/IllegalArgumentException" (1 : Nat) ({ cls := "java/lang/RuntimeException", name := "<init>", desc := "()V" } : Jvm.MethodName)) ∈ GW := gw_t3 (List.mem_of_getElem? (i := 44) rfl) rfl
theorem gw525 : (Jvm.Cond.instanceMethod ({ cls := "java/lang/RuntimeException", name := "<init>", desc := "()V" } : Jvm.MethodName)) ∈ GW := gw_t3 (List.mem_of_getElem? (i := 45) rfl) rfl
theorem gw526 : (Jvm.Cond.code ({ cls := "java/lang/RuntimeException", name := "<init>", desc := "()V" } : Jvm.MethodName) prog_19_method_1_code (1 : Nat) (Option.none : Option Jvm.ClassFile.FieldType)) ∈ GW := gw_t3 (List.mem_of_getElem? (i := 46) rfl) rfl
theorem gw527 : (Jvm.Cond.methodLink "java/lang/RuntimeException" (1 : Nat) ({ cls := "java/lang/Exception", name := "<init>", desc := "()V" } : Jvm.MethodName)) ∈ GW := gw_t3 (List.mem_of_getElem? (i := 47) rfl) rfl
theorem gw528 : (Jvm.Cond.instanceMethod ({ cls := "java/lang/Exception", name := "<init>", desc := "()V" } : Jvm.MethodName)) ∈ GW := gw_t3 (List.mem_of_getElem? (i := 48) rfl) rfl
theorem gw529 : (Jvm.Cond.code ({ cls := "java/lang/Exception", name := "<init>", desc := "()V" } : Jvm.MethodName) prog_14_method_1_code (1 : Nat) (Option.none : Option Jvm.ClassFile.FieldType)) ∈ GW := gw_t3 (List.mem_of_getElem? (i := 49) rfl) rfl
theorem gw530 : (Jvm.Cond.methodLink "java/lang/Exception" (1 : Nat) ({ cls := "java/lang/Throwable", name := "<init>", desc := "()V" } : Jvm.MethodName)) ∈ GW := gw_t3 (List.mem_of_getElem? (i := 50) rfl) rfl
theorem gw521 : (Jvm.Cond.methodLink "SchemaDesk" (114 : Nat) ({ cls := "java/lang/IllegalArgumentException", name := "<init>", desc := "()V" } : Jvm.MethodName)) ∈ GW := gw_t3 (List.mem_of_getElem? (i := 41) rfl) rfl
theorem gw479 : (Jvm.Cond.instantiable "java/lang/IllegalArgumentException" (6 : Nat)) ∈ GW := gw_t2 (List.mem_of_getElem? (i := 239) rfl) rfl
theorem gw487 : (Jvm.Cond.selects "java/lang/IllegalArgumentException" ({ cls := "java/lang/Throwable", name := "fillInStackTrace", desc := "(I)Ljava/lang/Throwable;" } : Jvm.MethodName) ({ cls := "java/lang/Throwable", name := "fillInStackTrace", desc := "(I)Ljava/lang/Throwable;" } : Jvm.MethodName)) ∈ GW := gw_t3 (List.mem_of_getElem? (i := 7) rfl) rfl
theorem gw488 : (Jvm.Cond.selects "java/lang/IllegalArgumentException" ({ cls := "java/lang/Throwable", name := "fillInStackTrace", desc := "()Ljava/lang/Throwable;" } : Jvm.MethodName) ({ cls := "java/lang/Throwable", name := "fillInStackTrace", desc := "()Ljava/lang/Throwable;" } : Jvm.MethodName)) ∈ GW := gw_t3 (List.mem_of_getElem? (i := 8) rfl) rfl
theorem gw489 : (Jvm.Cond.lays "java/lang/IllegalArgumentException" "java/lang/Throwable" "cause" "Ljava/lang/Throwable;") ∈ GW := gw_t3 (List.mem_of_getElem? (i := 9) rfl) rfl
theorem gw491 : (Jvm.Cond.lays "java/lang/IllegalArgumentException" "java/lang/Throwable" "stackTrace" "[Ljava/lang/StackTraceElement;") ∈ GW := gw_t3 (List.mem_of_getElem? (i := 11) rfl) rfl
theorem gw493 : (Jvm.Cond.lays "java/lang/IllegalArgumentException" "java/lang/Throwable" "suppressedExceptions" "Ljava/util/List;") ∈ GW := gw_t3 (List.mem_of_getElem? (i := 13) rfl) rfl
theorem gw495 : (Jvm.Cond.lays "java/lang/IllegalArgumentException" "java/lang/Throwable" "detailMessage" "Ljava/lang/String;") ∈ GW := gw_t3 (List.mem_of_getElem? (i := 15) rfl) rfl
theorem gw499 : (Jvm.Cond.fieldLink "java/lang/Throwable" (198 : Nat) "java/lang/Throwable" "backtrace" "Ljava/lang/Object;") ∈ GW := gw_t3 (List.mem_of_getElem? (i := 19) rfl) rfl
theorem gw498 : (Jvm.Cond.lays "java/lang/Throwable" "java/lang/Throwable" "backtrace" "Ljava/lang/Object;") ∈ GW := gw_t3 (List.mem_of_getElem? (i := 18) rfl) rfl
theorem gw497 : (Jvm.Cond.lays "java/lang/IllegalArgumentException" "java/lang/Throwable" "backtrace" "Ljava/lang/Object;") ∈ GW := gw_t3 (List.mem_of_getElem? (i := 17) rfl) rfl
set_option maxRecDepth 100000 in
set_option maxHeartbeats 4000000 in
theorem at_ia (g : Gm) (A : Nat → Prop) {args : Array Value} (u : State) (hts : ∀ w ∈ GW, w.before args u = true) (hZ : Zk g A u u.heap) : ∀ w ∈ Jvm.Bundle.ownAtoms0 "SchemaDesk" 114 E_ia E_up, w.before args u = true :=
  kt_c (hts _ gw17) (kt_c (hts _ gw500) (kt_c (hts _ gw509) (kt_c (hts _ gw515) (kt_c (hts _ gw518) (kt_c (hts _ gw520) (kt_c (hts _ gw501) (kt_c (hts _ gw502) (kt_c (hts _ gw33) (kt_c (hts _ gw34) (kt_c (hts _ gw503) (kt_c (hts _ gw508) (kt_c (hts _ gw516) (kt_c (hts _ gw532) (kt_c (hts _ gw490) (kt_c (hts _ gw533) (kt_c (hts _ gw492) (kt_c (hts _ gw534) (kt_c (hts _ gw494) (kt_c (hts _ gw504) (kt_c (hZ.2.2.2.2.1.lays) (kt_c (hts _ gw506) (kt_c (hZ.2.2.2.2.2.lays) (kt_c (hts _ gw496) (kt_c (hts _ gw522) (kt_c (hts _ gw523) (kt_c (hts _ gw524) (kt_c (hts _ gw525) (kt_c (hZ.2.2.2.1.1.use (List.mem_of_getElem? (i := 0) rfl)) (kt_c (hts _ gw525) (kt_c (hts _ gw526) (kt_c (hts _ gw527) (kt_c (hts _ gw528) (kt_c (hZ.2.2.2.1.1.use (List.mem_of_getElem? (i := 1) rfl)) (kt_c (hts _ gw528) (kt_c (hts _ gw529) (kt_c (hts _ gw530) (kt_c (hts _ gw501) (kt_c (hZ.2.2.2.1.1.use (List.mem_of_getElem? (i := 2) rfl)) (kt_c (hts _ gw521) (kt_c (hts _ gw479) (kt_c (hZ.2.2.2.1.1.use (List.mem_of_getElem? (i := 3) rfl)) (kt_c (hts _ gw487) (kt_c (hts _ gw488) (kt_c (hts _ gw489) (kt_c (hts _ gw491) (kt_c (hts _ gw493) (kt_c (hts _ gw495) (kt_c (hZ.2.2.2.2.1.ref) (kt_c (hZ.2.2.2.2.2.ref) (kt_c (hts _ gw499) (kt_c (hts _ gw498) (kt_c (hts _ gw497) (kt_n)))))))))))))))))))))))))))))))))))))))))))))))))))))
theorem gw553 : (Jvm.Cond.instanceMethod ({ cls := "java/lang/IndexOutOfBoundsException", name := "<init>", desc := "()V" } : Jvm.MethodName)) ∈ GW := gw_t3 (List.mem_of_getElem? (i := 73) rfl) rfl
theorem gw554 : (Jvm.Cond.code ({ cls := "java/lang/IndexOutOfBoundsException", name := "<init>", desc := "()V" } : Jvm.MethodName) prog_17_method_1_code (1 : Nat) (Option.none : Option Jvm.ClassFile.FieldType)) ∈ GW := gw_t3 (List.mem_of_getElem? (i := 74) rfl) rfl
theorem gw555 : (Jvm.Cond.methodLink "java/lang/IndexOutOfBoundsException" (1 : Nat) ({ cls := "java/lang/RuntimeException", name := "<init>", desc := "()V" } : Jvm.MethodName)) ∈ GW := gw_t3 (List.mem_of_getElem? (i := 75) rfl) rfl
theorem gw552 : (Jvm.Cond.methodLink "SchemaDesk" (117 : Nat) ({ cls := "java/lang/IndexOutOfBoundsException", name := "<init>", desc := "()V" } : Jvm.MethodName)) ∈ GW := gw_t3 (List.mem_of_getElem? (i := 72) rfl) rfl
theorem gw544 : (Jvm.Cond.instantiable "java/lang/IndexOutOfBoundsException" (6 : Nat)) ∈ GW := gw_t3 (List.mem_of_getElem? (i := 64) rfl) rfl
theorem gw546 : (Jvm.Cond.selects "java/lang/IndexOutOfBoundsException" ({ cls := "java/lang/Throwable", name := "fillInStackTrace", desc := "(I)Ljava/lang/Throwable;" } : Jvm.MethodName) ({ cls := "java/lang/Throwable", name := "fillInStackTrace", desc := "(I)Ljava/lang/Throwable;" } : Jvm.MethodName)) ∈ GW := gw_t3 (List.mem_of_getElem? (i := 66) rfl) rfl
theorem gw512 : (Jvm.Cond.selects "java/lang/IndexOutOfBoundsException" ({ cls := "java/lang/Throwable", name := "fillInStackTrace", desc := "()Ljava/lang/Throwable;" } : Jvm.MethodName) ({ cls := "java/lang/Throwable", name := "fillInStackTrace", desc := "()Ljava/lang/Throwable;" } : Jvm.MethodName)) ∈ GW := gw_t3 (List.mem_of_getElem? (i := 32) rfl) rfl
theorem gw547 : (Jvm.Cond.lays "java/lang/IndexOutOfBoundsException" "java/lang/Throwable" "cause" "Ljava/lang/Throwable;") ∈ GW := gw_t3 (List.mem_of_getElem? (i := 67) rfl) rfl
theorem gw548 : (Jvm.Cond.lays "java/lang/IndexOutOfBoundsException" "java/lang/Throwable" "stackTrace" "[Ljava/lang/StackTraceElement;") ∈ GW := gw_t3 (List.mem_of_getElem? (i := 68) rfl) rfl
theorem gw549 : (Jvm.Cond.lays "java/lang/IndexOutOfBoundsException" "java/lang/Throwable" "suppressedExceptions" "Ljava/util/List;") ∈ GW := gw_t3 (List.mem_of_getElem? (i := 69) rfl) rfl
theorem gw550 : (Jvm.Cond.lays "java/lang/IndexOutOfBoundsException" "java/lang/Throwable" "detailMessage" "Ljava/lang/String;") ∈ GW := gw_t3 (List.mem_of_getElem? (i := 70) rfl) rfl
theorem gw551 : (Jvm.Cond.lays "java/lang/IndexOutOfBoundsException" "java/lang/Throwable" "backtrace" "Ljava/lang/Object;") ∈ GW := gw_t3 (List.mem_of_getElem? (i := 71) rfl) rfl
set_option maxRecDepth 100000 in
set_option maxHeartbeats 4000000 in
theorem at_io (g : Gm) (A : Nat → Prop) {args : Array Value} (u : State) (hts : ∀ w ∈ GW, w.before args u = true) (hZ : Zk g A u u.heap) : ∀ w ∈ Jvm.Bundle.ownAtoms0 "SchemaDesk" 117 E_io E_up, w.before args u = true :=
  kt_c (hts _ gw17) (kt_c (hts _ gw500) (kt_c (hts _ gw509) (kt_c (hts _ gw515) (kt_c (hts _ gw518) (kt_c (hts _ gw520) (kt_c (hts _ gw501) (kt_c (hts _ gw502) (kt_c (hts _ gw33) (kt_c (hts _ gw34) (kt_c (hts _ gw503) (kt_c (hts _ gw508) (kt_c (hts _ gw516) (kt_c (hts _ gw532) (kt_c (hts _ gw490) (kt_c (hts _ gw533) (kt_c (hts _ gw492) (kt_c (hts _ gw534) (kt_c (hts _ gw494) (kt_c (hts _ gw504) (kt_c (hZ.2.2.2.2.1.lays) (kt_c (hts _ gw506) (kt_c (hZ.2.2.2.2.2.lays) (kt_c (hts _ gw496) (kt_c (hts _ gw553) (kt_c (hts _ gw554) (kt_c (hts _ gw555) (kt_c (hts _ gw525) (kt_c (hZ.2.2.2.1.1.use (List.mem_of_getElem? (i := 0) rfl)) (kt_c (hts _ gw525) (kt_c (hts _ gw526) (kt_c (hts _ gw527) (kt_c (hts _ gw528) (kt_c (hZ.2.2.2.1.1.use (List.mem_of_getElem? (i := 1) rfl)) (kt_c (hts _ gw528) (kt_c (hts _ gw529) (kt_c (hts _ gw530) (kt_c (hts _ gw501) (kt_c (hZ.2.2.2.1.1.use (List.mem_of_getElem? (i := 2) rfl)) (kt_c (hts _ gw552) (kt_c (hts _ gw544) (kt_c (hZ.2.2.2.1.1.use (List.mem_of_getElem? (i := 4) rfl)) (kt_c (hts _ gw546) (kt_c (hts _ gw512) (kt_c (hts _ gw547) (kt_c (hts _ gw548) (kt_c (hts _ gw549) (kt_c (hts _ gw550) (kt_c (hZ.2.2.2.2.1.ref) (kt_c (hZ.2.2.2.2.2.ref) (kt_c (hts _ gw499) (kt_c (hts _ gw498) (kt_c (hts _ gw551) (kt_n)))))))))))))))))))))))))))))))))))))))))))))))))))))
theorem gw568 : (Jvm.Cond.instanceMethod ({ cls := "java/lang/IllegalStateException", name := "<init>", desc := "()V" } : Jvm.MethodName)) ∈ GW := gw_t3 (List.mem_of_getElem? (i := 88) rfl) rfl
theorem gw569 : (Jvm.Cond.code ({ cls := "java/lang/IllegalStateException", name := "<init>", desc := "()V" } : Jvm.MethodName) prog_16_method_1_code (1 : Nat) (Option.none : Option Jvm.ClassFile.FieldType)) ∈ GW := gw_t3 (List.mem_of_getElem? (i := 89) rfl) rfl
theorem gw570 : (Jvm.Cond.methodLink "java/lang/IllegalStateException" (1 : Nat) ({ cls := "java/lang/RuntimeException", name := "<init>", desc := "()V" } : Jvm.MethodName)) ∈ GW := gw_t3 (List.mem_of_getElem? (i := 90) rfl) rfl
theorem gw567 : (Jvm.Cond.methodLink "SchemaDesk" (120 : Nat) ({ cls := "java/lang/IllegalStateException", name := "<init>", desc := "()V" } : Jvm.MethodName)) ∈ GW := gw_t3 (List.mem_of_getElem? (i := 87) rfl) rfl
theorem gw559 : (Jvm.Cond.instantiable "java/lang/IllegalStateException" (6 : Nat)) ∈ GW := gw_t3 (List.mem_of_getElem? (i := 79) rfl) rfl
theorem gw561 : (Jvm.Cond.selects "java/lang/IllegalStateException" ({ cls := "java/lang/Throwable", name := "fillInStackTrace", desc := "(I)Ljava/lang/Throwable;" } : Jvm.MethodName) ({ cls := "java/lang/Throwable", name := "fillInStackTrace", desc := "(I)Ljava/lang/Throwable;" } : Jvm.MethodName)) ∈ GW := gw_t3 (List.mem_of_getElem? (i := 81) rfl) rfl
theorem gw511 : (Jvm.Cond.selects "java/lang/IllegalStateException" ({ cls := "java/lang/Throwable", name := "fillInStackTrace", desc := "()Ljava/lang/Throwable;" } : Jvm.MethodName) ({ cls := "java/lang/Throwable", name := "fillInStackTrace", desc := "()Ljava/lang/Throwable;" } : Jvm.MethodName)) ∈ GW := gw_t3 (List.mem_of_getElem? (i := 31) rfl) rfl
theorem gw562 : (Jvm.Cond.lays "java/lang/IllegalStateException" "java/lang/Throwable" "cause" "Ljava/lang/Throwable;") ∈ GW := gw_t3 (List.mem_of_getElem? (i := 82) rfl) rfl
theorem gw563 : (Jvm.Cond.lays "java/lang/IllegalStateException" "java/lang/Throwable" "stackTrace" "[Ljava/lang/StackTraceElement;") ∈ GW := gw_t3 (List.mem_of_getElem? (i := 83) rfl) rfl
theorem gw564 : (Jvm.Cond.lays "java/lang/IllegalStateException" "java/lang/Throwable" "suppressedExceptions" "Ljava/util/List;") ∈ GW := gw_t3 (List.mem_of_getElem? (i := 84) rfl) rfl
theorem gw565 : (Jvm.Cond.lays "java/lang/IllegalStateException" "java/lang/Throwable" "detailMessage" "Ljava/lang/String;") ∈ GW := gw_t3 (List.mem_of_getElem? (i := 85) rfl) rfl
theorem gw566 : (Jvm.Cond.lays "java/lang/IllegalStateException" "java/lang/Throwable" "backtrace" "Ljava/lang/Object;") ∈ GW := gw_t3 (List.mem_of_getElem? (i := 86) rfl) rfl
set_option maxRecDepth 100000 in
set_option maxHeartbeats 4000000 in
theorem at_is (g : Gm) (A : Nat → Prop) {args : Array Value} (u : State) (hts : ∀ w ∈ GW, w.before args u = true) (hZ : Zk g A u u.heap) : ∀ w ∈ Jvm.Bundle.ownAtoms0 "SchemaDesk" 120 E_is E_up, w.before args u = true :=
  kt_c (hts _ gw17) (kt_c (hts _ gw500) (kt_c (hts _ gw509) (kt_c (hts _ gw515) (kt_c (hts _ gw518) (kt_c (hts _ gw520) (kt_c (hts _ gw501) (kt_c (hts _ gw502) (kt_c (hts _ gw33) (kt_c (hts _ gw34) (kt_c (hts _ gw503) (kt_c (hts _ gw508) (kt_c (hts _ gw516) (kt_c (hts _ gw532) (kt_c (hts _ gw490) (kt_c (hts _ gw533) (kt_c (hts _ gw492) (kt_c (hts _ gw534) (kt_c (hts _ gw494) (kt_c (hts _ gw504) (kt_c (hZ.2.2.2.2.1.lays) (kt_c (hts _ gw506) (kt_c (hZ.2.2.2.2.2.lays) (kt_c (hts _ gw496) (kt_c (hts _ gw568) (kt_c (hts _ gw569) (kt_c (hts _ gw570) (kt_c (hts _ gw525) (kt_c (hZ.2.2.2.1.1.use (List.mem_of_getElem? (i := 0) rfl)) (kt_c (hts _ gw525) (kt_c (hts _ gw526) (kt_c (hts _ gw527) (kt_c (hts _ gw528) (kt_c (hZ.2.2.2.1.1.use (List.mem_of_getElem? (i := 1) rfl)) (kt_c (hts _ gw528) (kt_c (hts _ gw529) (kt_c (hts _ gw530) (kt_c (hts _ gw501) (kt_c (hZ.2.2.2.1.1.use (List.mem_of_getElem? (i := 2) rfl)) (kt_c (hts _ gw567) (kt_c (hts _ gw559) (kt_c (hZ.2.2.2.1.1.use (List.mem_of_getElem? (i := 5) rfl)) (kt_c (hts _ gw561) (kt_c (hts _ gw511) (kt_c (hts _ gw562) (kt_c (hts _ gw563) (kt_c (hts _ gw564) (kt_c (hts _ gw565) (kt_c (hZ.2.2.2.2.1.ref) (kt_c (hZ.2.2.2.2.2.ref) (kt_c (hts _ gw499) (kt_c (hts _ gw498) (kt_c (hts _ gw566) (kt_n)))))))))))))))))))))))))))))))))))))))))))))))))))))
theorem gw715 : (Jvm.Cond.instanceMethod ({ cls := "java/util/NoSuchElementException", name := "<init>", desc := "()V" } : Jvm.MethodName)) ∈ GW := gw_t3 (List.mem_of_getElem? (i := 235) rfl) rfl
theorem gw716 : (Jvm.Cond.code ({ cls := "java/util/NoSuchElementException", name := "<init>", desc := "()V" } : Jvm.MethodName) prog_27_method_1_code (1 : Nat) (Option.none : Option Jvm.ClassFile.FieldType)) ∈ GW := gw_t3 (List.mem_of_getElem? (i := 236) rfl) rfl
theorem gw717 : (Jvm.Cond.methodLink "java/util/NoSuchElementException" (1 : Nat) ({ cls := "java/lang/RuntimeException", name := "<init>", desc := "()V" } : Jvm.MethodName)) ∈ GW := gw_t3 (List.mem_of_getElem? (i := 237) rfl) rfl
theorem gw714 : (Jvm.Cond.methodLink "SchemaDesk" (139 : Nat) ({ cls := "java/util/NoSuchElementException", name := "<init>", desc := "()V" } : Jvm.MethodName)) ∈ GW := gw_t3 (List.mem_of_getElem? (i := 234) rfl) rfl
theorem gw706 : (Jvm.Cond.instantiable "java/util/NoSuchElementException" (6 : Nat)) ∈ GW := gw_t3 (List.mem_of_getElem? (i := 226) rfl) rfl
theorem gw708 : (Jvm.Cond.selects "java/util/NoSuchElementException" ({ cls := "java/lang/Throwable", name := "fillInStackTrace", desc := "(I)Ljava/lang/Throwable;" } : Jvm.MethodName) ({ cls := "java/lang/Throwable", name := "fillInStackTrace", desc := "(I)Ljava/lang/Throwable;" } : Jvm.MethodName)) ∈ GW := gw_t3 (List.mem_of_getElem? (i := 228) rfl) rfl
theorem gw514 : (Jvm.Cond.selects "java/util/NoSuchElementException" ({ cls := "java/lang/Throwable", name := "fillInStackTrace", desc := "()Ljava/lang/Throwable;" } : Jvm.MethodName) ({ cls := "java/lang/Throwable", name := "fillInStackTrace", desc := "()Ljava/lang/Throwable;" } : Jvm.MethodName)) ∈ GW := gw_t3 (List.mem_of_getElem? (i := 34) rfl) rfl
theorem gw709 : (Jvm.Cond.lays "java/util/NoSuchElementException" "java/lang/Throwable" "cause" "Ljava/lang/Throwable;") ∈ GW := gw_t3 (List.mem_of_getElem? (i := 229) rfl) rfl
theorem gw710 : (Jvm.Cond.lays "java/util/NoSuchElementException" "java/lang/Throwable" "stackTrace" "[Ljava/lang/StackTraceElement;") ∈ GW := gw_t3 (List.mem_of_getElem? (i := 230) rfl) rfl
theorem gw711 : (Jvm.Cond.lays "java/util/NoSuchElementException" "java/lang/Throwable" "suppressedExceptions" "Ljava/util/List;") ∈ GW := gw_t3 (List.mem_of_getElem? (i := 231) rfl) rfl
theorem gw712 : (Jvm.Cond.lays "java/util/NoSuchElementException" "java/lang/Throwable" "detailMessage" "Ljava/lang/String;") ∈ GW := gw_t3 (List.mem_of_getElem? (i := 232) rfl) rfl
theorem gw713 : (Jvm.Cond.lays "java/util/NoSuchElementException" "java/lang/Throwable" "backtrace" "Ljava/lang/Object;") ∈ GW := gw_t3 (List.mem_of_getElem? (i := 233) rfl) rfl
set_option maxRecDepth 100000 in
set_option maxHeartbeats 4000000 in
theorem at_ns (g : Gm) (A : Nat → Prop) {args : Array Value} (u : State) (hts : ∀ w ∈ GW, w.before args u = true) (hZ : Zk g A u u.heap) : ∀ w ∈ Jvm.Bundle.ownAtoms0 "SchemaDesk" 139 E_ns E_up, w.before args u = true :=
  kt_c (hts _ gw17) (kt_c (hts _ gw500) (kt_c (hts _ gw509) (kt_c (hts _ gw515) (kt_c (hts _ gw518) (kt_c (hts _ gw520) (kt_c (hts _ gw501) (kt_c (hts _ gw502) (kt_c (hts _ gw33) (kt_c (hts _ gw34) (kt_c (hts _ gw503) (kt_c (hts _ gw508) (kt_c (hts _ gw516) (kt_c (hts _ gw532) (kt_c (hts _ gw490) (kt_c (hts _ gw533) (kt_c (hts _ gw492) (kt_c (hts _ gw534) (kt_c (hts _ gw494) (kt_c (hts _ gw504) (kt_c (hZ.2.2.2.2.1.lays) (kt_c (hts _ gw506) (kt_c (hZ.2.2.2.2.2.lays) (kt_c (hts _ gw496) (kt_c (hts _ gw715) (kt_c (hts _ gw716) (kt_c (hts _ gw717) (kt_c (hts _ gw525) (kt_c (hZ.2.2.2.1.1.use (List.mem_of_getElem? (i := 0) rfl)) (kt_c (hts _ gw525) (kt_c (hts _ gw526) (kt_c (hts _ gw527) (kt_c (hts _ gw528) (kt_c (hZ.2.2.2.1.1.use (List.mem_of_getElem? (i := 1) rfl)) (kt_c (hts _ gw528) (kt_c (hts _ gw529) (kt_c (hts _ gw530) (kt_c (hts _ gw501) (kt_c (hZ.2.2.2.1.1.use (List.mem_of_getElem? (i := 2) rfl)) (kt_c (hts _ gw714) (kt_c (hts _ gw706) (kt_c (hZ.2.2.2.1.1.use (List.mem_of_getElem? (i := 6) rfl)) (kt_c (hts _ gw708) (kt_c (hts _ gw514) (kt_c (hts _ gw709) (kt_c (hts _ gw710) (kt_c (hts _ gw711) (kt_c (hts _ gw712) (kt_c (hZ.2.2.2.2.1.ref) (kt_c (hZ.2.2.2.2.2.ref) (kt_c (hts _ gw499) (kt_c (hts _ gw498) (kt_c (hts _ gw713) (kt_n)))))))))))))))))))))))))))))))))))))))))))))))))))))
theorem gw791 : (Jvm.Cond.instanceMethod ({ cls := "java/lang/UnsupportedOperationException", name := "<init>", desc := "()V" } : Jvm.MethodName)) ∈ GW := gw_t4 (List.mem_of_getElem? (i := 71) rfl) rfl
theorem gw792 : (Jvm.Cond.code ({ cls := "java/lang/UnsupportedOperationException", name := "<init>", desc := "()V" } : Jvm.MethodName) prog_25_method_1_code (1 : Nat) (Option.none : Option Jvm.ClassFile.FieldType)) ∈ GW := gw_t4 (List.mem_of_getElem? (i := 72) rfl) rfl
theorem gw793 : (Jvm.Cond.methodLink "java/lang/UnsupportedOperationException" (1 : Nat) ({ cls := "java/lang/RuntimeException", name := "<init>", desc := "()V" } : Jvm.MethodName)) ∈ GW := gw_t4 (List.mem_of_getElem? (i := 73) rfl) rfl
theorem gw790 : (Jvm.Cond.methodLink "SchemaDesk" (177 : Nat) ({ cls := "java/lang/UnsupportedOperationException", name := "<init>", desc := "()V" } : Jvm.MethodName)) ∈ GW := gw_t4 (List.mem_of_getElem? (i := 70) rfl) rfl
theorem gw782 : (Jvm.Cond.instantiable "java/lang/UnsupportedOperationException" (6 : Nat)) ∈ GW := gw_t4 (List.mem_of_getElem? (i := 62) rfl) rfl
theorem gw784 : (Jvm.Cond.selects "java/lang/UnsupportedOperationException" ({ cls := "java/lang/Throwable", name := "fillInStackTrace", desc := "(I)Ljava/lang/Throwable;" } : Jvm.MethodName) ({ cls := "java/lang/Throwable", name := "fillInStackTrace", desc := "(I)Ljava/lang/Throwable;" } : Jvm.MethodName)) ∈ GW := gw_t4 (List.mem_of_getElem? (i := 64) rfl) rfl
theorem gw513 : (Jvm.Cond.selects "java/lang/UnsupportedOperationException" ({ cls := "java/lang/Throwable", name := "fillInStackTrace", desc := "()Ljava/lang/Throwable;" } : Jvm.MethodName) ({ cls := "java/lang/Throwable", name := "fillInStackTrace", desc := "()Ljava/lang/Throwable;" } : Jvm.MethodName)) ∈ GW := gw_t3 (List.mem_of_getElem? (i := 33) rfl) rfl
theorem gw785 : (Jvm.Cond.lays "java/lang/UnsupportedOperationException" "java/lang/Throwable" "cause" "Ljava/lang/Throwable;") ∈ GW := gw_t4 (List.mem_of_getElem? (i := 65) rfl) rfl
theorem gw786 : (Jvm.Cond.lays "java/lang/UnsupportedOperationException" "java/lang/Throwable" "stackTrace" "[Ljava/lang/StackTraceElement;") ∈ GW := gw_t4 (List.mem_of_getElem? (i := 66) rfl) rfl
theorem gw787 : (Jvm.Cond.lays "java/lang/UnsupportedOperationException" "java/lang/Throwable" "suppressedExceptions" "Ljava/util/List;") ∈ GW := gw_t4 (List.mem_of_getElem? (i := 67) rfl) rfl
theorem gw788 : (Jvm.Cond.lays "java/lang/UnsupportedOperationException" "java/lang/Throwable" "detailMessage" "Ljava/lang/String;") ∈ GW := gw_t4 (List.mem_of_getElem? (i := 68) rfl) rfl
theorem gw789 : (Jvm.Cond.lays "java/lang/UnsupportedOperationException" "java/lang/Throwable" "backtrace" "Ljava/lang/Object;") ∈ GW := gw_t4 (List.mem_of_getElem? (i := 69) rfl) rfl
set_option maxRecDepth 100000 in
set_option maxHeartbeats 4000000 in
theorem at_uo (g : Gm) (A : Nat → Prop) {args : Array Value} (u : State) (hts : ∀ w ∈ GW, w.before args u = true) (hZ : Zk g A u u.heap) : ∀ w ∈ Jvm.Bundle.ownAtoms0 "SchemaDesk" 177 E_uo E_up, w.before args u = true :=
  kt_c (hts _ gw17) (kt_c (hts _ gw500) (kt_c (hts _ gw509) (kt_c (hts _ gw515) (kt_c (hts _ gw518) (kt_c (hts _ gw520) (kt_c (hts _ gw501) (kt_c (hts _ gw502) (kt_c (hts _ gw33) (kt_c (hts _ gw34) (kt_c (hts _ gw503) (kt_c (hts _ gw508) (kt_c (hts _ gw516) (kt_c (hts _ gw532) (kt_c (hts _ gw490) (kt_c (hts _ gw533) (kt_c (hts _ gw492) (kt_c (hts _ gw534) (kt_c (hts _ gw494) (kt_c (hts _ gw504) (kt_c (hZ.2.2.2.2.1.lays) (kt_c (hts _ gw506) (kt_c (hZ.2.2.2.2.2.lays) (kt_c (hts _ gw496) (kt_c (hts _ gw791) (kt_c (hts _ gw792) (kt_c (hts _ gw793) (kt_c (hts _ gw525) (kt_c (hZ.2.2.2.1.1.use (List.mem_of_getElem? (i := 0) rfl)) (kt_c (hts _ gw525) (kt_c (hts _ gw526) (kt_c (hts _ gw527) (kt_c (hts _ gw528) (kt_c (hZ.2.2.2.1.1.use (List.mem_of_getElem? (i := 1) rfl)) (kt_c (hts _ gw528) (kt_c (hts _ gw529) (kt_c (hts _ gw530) (kt_c (hts _ gw501) (kt_c (hZ.2.2.2.1.1.use (List.mem_of_getElem? (i := 2) rfl)) (kt_c (hts _ gw790) (kt_c (hts _ gw782) (kt_c (hZ.2.2.2.1.1.use (List.mem_of_getElem? (i := 7) rfl)) (kt_c (hts _ gw784) (kt_c (hts _ gw513) (kt_c (hts _ gw785) (kt_c (hts _ gw786) (kt_c (hts _ gw787) (kt_c (hts _ gw788) (kt_c (hZ.2.2.2.2.1.ref) (kt_c (hZ.2.2.2.2.2.ref) (kt_c (hts _ gw499) (kt_c (hts _ gw498) (kt_c (hts _ gw789) (kt_n)))))))))))))))))))))))))))))))))))))))))))))))))))))
abbrev k_Sd_judge : ByteArray := prog_1_method_13_code
abbrev y_Sd_judge : MethodName := ⟨"SchemaDesk", "judge", "()I"⟩
theorem d_Sd_judge_0 : decode k_Sd_judge 0 = .ok (.aload_n 0, 1) := by decide +kernel
theorem d_Sd_judge_1 : decode k_Sd_judge 1 = .ok (.iconst 0, 1) := by decide +kernel
theorem d_Sd_judge_2 : decode k_Sd_judge 2 = .ok (.invokevirtual 129, 3) := by decide +kernel
theorem d_Sd_judge_5 : decode k_Sd_judge 5 = .ok (.getfield 162, 3) := by decide +kernel
theorem d_Sd_judge_8 : decode k_Sd_judge 8 = .ok (.ifCond .gt 14, 3) := by decide +kernel
theorem d_Sd_judge_11 : decode k_Sd_judge 11 = .ok (.aload_n 0, 1) := by decide +kernel
theorem d_Sd_judge_12 : decode k_Sd_judge 12 = .ok (.iconst 1, 1) := by decide +kernel
theorem d_Sd_judge_13 : decode k_Sd_judge 13 = .ok (.invokevirtual 129, 3) := by decide +kernel
theorem d_Sd_judge_16 : decode k_Sd_judge 16 = .ok (.getfield 162, 3) := by decide +kernel
theorem d_Sd_judge_19 : decode k_Sd_judge 19 = .ok (.ifCond .le 11, 3) := by decide +kernel
theorem d_Sd_judge_22 : decode k_Sd_judge 22 = .ok (.new 118, 3) := by decide +kernel
theorem d_Sd_judge_25 : decode k_Sd_judge 25 = .ok (.dup, 1) := by decide +kernel
theorem d_Sd_judge_26 : decode k_Sd_judge 26 = .ok (.invokespecial 120, 3) := by decide +kernel
theorem d_Sd_judge_29 : decode k_Sd_judge 29 = .ok (.athrow, 1) := by decide +kernel
theorem d_Sd_judge_30 : decode k_Sd_judge 30 = .ok (.aload_n 0, 1) := by decide +kernel
theorem d_Sd_judge_31 : decode k_Sd_judge 31 = .ok (.getfield 48, 3) := by decide +kernel
theorem d_Sd_judge_34 : decode k_Sd_judge 34 = .ok (.invokevirtual 168, 3) := by decide +kernel
theorem d_Sd_judge_37 : decode k_Sd_judge 37 = .ok (.aload_n 0, 1) := by decide +kernel
theorem d_Sd_judge_38 : decode k_Sd_judge 38 = .ok (.getfield 48, 3) := by decide +kernel
theorem d_Sd_judge_41 : decode k_Sd_judge 41 = .ok (.getfield 171, 3) := by decide +kernel
theorem d_Sd_judge_44 : decode k_Sd_judge 44 = .ok (.ifCond .eq 11, 3) := by decide +kernel
theorem d_Sd_judge_47 : decode k_Sd_judge 47 = .ok (.new 175, 3) := by decide +kernel
theorem d_Sd_judge_50 : decode k_Sd_judge 50 = .ok (.dup, 1) := by decide +kernel
theorem d_Sd_judge_51 : decode k_Sd_judge 51 = .ok (.invokespecial 177, 3) := by decide +kernel
theorem d_Sd_judge_54 : decode k_Sd_judge 54 = .ok (.athrow, 1) := by decide +kernel
theorem d_Sd_judge_55 : decode k_Sd_judge 55 = .ok (.aload_n 0, 1) := by decide +kernel
theorem d_Sd_judge_56 : decode k_Sd_judge 56 = .ok (.getfield 57, 3) := by decide +kernel
theorem d_Sd_judge_59 : decode k_Sd_judge 59 = .ok (.invokevirtual 178, 3) := by decide +kernel
theorem d_Sd_judge_62 : decode k_Sd_judge 62 = .ok (.aload_n 0, 1) := by decide +kernel
theorem d_Sd_judge_63 : decode k_Sd_judge 63 = .ok (.getfield 66, 3) := by decide +kernel
theorem d_Sd_judge_66 : decode k_Sd_judge 66 = .ok (.invokevirtual 183, 3) := by decide +kernel
theorem d_Sd_judge_69 : decode k_Sd_judge 69 = .ok (.aload_n 0, 1) := by decide +kernel
theorem d_Sd_judge_70 : decode k_Sd_judge 70 = .ok (.getfield 66, 3) := by decide +kernel
theorem d_Sd_judge_73 : decode k_Sd_judge 73 = .ok (.getfield 186, 3) := by decide +kernel
theorem d_Sd_judge_76 : decode k_Sd_judge 76 = .ok (.ireturn, 1) := by decide +kernel
theorem gw478 : (Jvm.Cond.classLink "SchemaDesk" (112 : Nat) "java/lang/IllegalArgumentException") ∈ GW := gw_t2 (List.mem_of_getElem? (i := 238) rfl) rfl
theorem gw20 : (Jvm.Cond.initialized "java/lang/IllegalArgumentException") ∈ GW := gw_t1 (List.mem_of_getElem? (i := 20) rfl) rfl
def wq_Sd_insert_ia (x1 : Int32) (x2 : Int32) (x3 : Int32) (σ : Sg) (post : Sg → Prop) : Prop := (wq_Sd_isText x1 σ (fun r1 σ1 => ((r1 = 0 → post σ1) ∧ (¬ r1 = 0 → (wq_Sd_isCharacter x3 σ1 (fun r2 σ2 => ((¬ r2 = 0 → False) ∧ (r2 = 0 → post σ2))))))))
set_option maxRecDepth 100000 in
set_option maxHeartbeats 4000000 in
theorem b_Sd_insert_ia_0 {p : Program} {l : Launch} {e : Env} {s : State} {m : MethodId} {args : Array Value} {below : List Frame} {meth : Method} {c : Code} {D : va_G} {g : Gm} {A : Nat → Prop} {post : Sg → Prop} (C : kC p s m args meth c k_Sd_insert 5 (none) GW R_Sd D vwCl g (Zk g) A) (htr : l.stackTraces = false) (hout : c.exceptionTable.isEmpty = true) (x1 : Int32) (x2 : Int32) (x3 : Int32) (σ : Sg) (H : Heap) (locs : List Loc) (ls : Array Slot) (hl : lv_has ls 5 [(0, .ref (g.1 51)), (1, .int x1), (2, .int x2), (3, .int x3)]) (hst : Wst D vwCl (WS g) A s σ H locs) (h : wq_Sd_insert_ia x1 x2 x3 σ post) : W p l e { frames := 6, cells := 1, slots := 6, locals := 100 } s m args below meth c H locs 0 0 (MQT below E_ia (fun t => ∃ σ1, post σ1 ∧ Bw D vwCl (WS g) A σ1 t) A s 1 6) (F0 m 0 ls []) := by
  obtain ⟨hx, hb, hr, hml, hown, hts, hlocks, hK, hZ, hA⟩ := C
  unfold wq_Sd_insert_ia at h
  refine lv_iload_n hx hb d_Sd_insert_0 rfl (lv_at hl 1 rfl) ?_
  refine kw_calli (va_runS (As := [.int x1]) (rest := []) ⟨hx, hb, hml, hown, hts⟩ (c_Sd_isText l x1 h) (cwS 1 hts (gd_s gw431 gw432 gw1 gw433) rfl rfl rfl (by decide +kernel) ⟨Nat.le_of_ble_eq_true rfl, Nat.le_of_ble_eq_true rfl⟩) ⟨kw_blind (Zk_ok g), kw_pre (Zk_ok g) hK hZ hA hst⟩ rfl rfl hl.1 rfl (lv_room (Nat.le_of_ble_eq_true rfl)) d_Sd_insert_1 ⟨Nat.le_of_ble_eq_true rfl, Nat.le_of_ble_eq_true rfl⟩) hst hA (fun r1 σ1 H locs h hst => ?_)
  refine lv_if_eq (tgt := 14) hx hb d_Sd_insert_4 (by decide) (fun hc => ?_) (fun hc => ?_)
  · replace h := h.1 hc
    exact kt_throw (E := E_ia) (ia := 112) (ic := 114) hx hb hown hlocks htr (by decide) hts (Zk_ok g) hZ hst (at_ia g A) gw478 gw479 gw20 hout (hl.1.trans hml.symm) (Nat.le_of_ble_eq_true rfl) (Nat.le_of_ble_eq_true rfl) (Nat.le_of_ble_eq_true rfl) (Nat.le_of_ble_eq_true rfl) h d_Sd_insert_14 d_Sd_insert_17 d_Sd_insert_18 d_Sd_insert_21
  · replace h := h.2 hc
    refine lv_iload_n hx hb d_Sd_insert_7 rfl (lv_at hl 3 rfl) ?_
    refine kw_calli (va_runS (As := [.int x3]) (rest := []) ⟨hx, hb, hml, hown, hts⟩ (c_Sd_isCharacter l x3 h) (cwS 1 hts (gd_s gw434 gw435 gw1 gw436) rfl rfl rfl (by decide +kernel) ⟨Nat.le_of_ble_eq_true rfl, Nat.le_of_ble_eq_true rfl⟩) ⟨kw_blind (Zk_ok g), kw_pre (Zk_ok g) hK hZ hA hst⟩ rfl rfl hl.1 rfl (lv_room (Nat.le_of_ble_eq_true rfl)) d_Sd_insert_8 ⟨Nat.le_of_ble_eq_true rfl, Nat.le_of_ble_eq_true rfl⟩) hst hA (fun r2 σ2 H locs h hst => ?_)
    refine lv_if_ne (tgt := 22) hx hb d_Sd_insert_11 (by decide) (fun hc => ?_) (fun hc => ?_)
    · replace h := h.1 hc
      exact h.elim
    · replace h := h.2 hc
      exact kt_throw (E := E_ia) (ia := 112) (ic := 114) hx hb hown hlocks htr (by decide) hts (Zk_ok g) hZ hst (at_ia g A) gw478 gw479 gw20 hout (hl.1.trans hml.symm) (Nat.le_of_ble_eq_true rfl) (Nat.le_of_ble_eq_true rfl) (Nat.le_of_ble_eq_true rfl) (Nat.le_of_ble_eq_true rfl) h d_Sd_insert_14 d_Sd_insert_17 d_Sd_insert_18 d_Sd_insert_21
set_option maxRecDepth 100000 in
set_option maxHeartbeats 4000000 in
theorem c_Sd_insert_ia (l : Launch) {D : va_G} {g : Gm} (htr : l.stackTraces = false) {sz : Nat} (x1 : Int32) (x2 : Int32) (x3 : Int32) {σ : Sg} {post : Sg → Prop} (h : wq_Sd_insert_ia x1 x2 x3 σ post) : MetT l y_Sd_insert (.code y_Sd_insert k_Sd_insert 5 (none) :: GW) { frames := 6, cells := 1, slots := 6, locals := 100 } (PcW D vwCl (WS g) g (Zk g) σ sz [.ref (g.1 51), .int x1, .int x2, .int x3]) E_ia (fun t => ∃ σ1, post σ1 ∧ Bw D vwCl (WS g) (va_A (WS g σ) sz) σ1 t) (va_A (WS g σ) sz) 1 6 := by
  refine kt_entry (own := R_Sd) (by decide) rfl rfl (Nat.le_of_ble_eq_true rfl) ?_
  intro p e s m below meth c ls hsz C hout hl hst
  exact b_Sd_insert_ia_0 C htr hout x1 x2 x3 σ _ _ ls hl hst h
theorem gw543 : (Jvm.Cond.classLink "SchemaDesk" (115 : Nat) "java/lang/IndexOutOfBoundsException") ∈ GW := gw_t3 (List.mem_of_getElem? (i := 63) rfl) rfl
theorem gw21 : (Jvm.Cond.initialized "java/lang/IndexOutOfBoundsException") ∈ GW := gw_t1 (List.mem_of_getElem? (i := 21) rfl) rfl
def wq_Sd_insert_io (x1 : Int32) (x2 : Int32) (x3 : Int32) (σ : Sg) (post : Sg → Prop) : Prop := (wq_Sd_isText x1 σ (fun r1 σ1 => ((r1 = 0 → False) ∧ (¬ r1 = 0 → (wq_Sd_isCharacter x3 σ1 (fun r2 σ2 => ((¬ r2 = 0 → (wq_Sd_textOf x1 σ2 (fun r3 σ3 => (r3 = 0 ∨ r3 = 13) ∧ ((x2 < 0 → post σ3) ∧ (¬ x2 < 0 → ((x2 ≤ (σ3.1 (r3 + 10) 1) → False) ∧ (¬ x2 ≤ (σ3.1 (r3 + 10) 1) → post σ3))))))) ∧ (r2 = 0 → False))))))))
set_option maxRecDepth 100000 in
set_option maxHeartbeats 4000000 in
theorem b_Sd_insert_io_0 {p : Program} {l : Launch} {e : Env} {s : State} {m : MethodId} {args : Array Value} {below : List Frame} {meth : Method} {c : Code} {D : va_G} {g : Gm} {A : Nat → Prop} {post : Sg → Prop} (C : kC p s m args meth c k_Sd_insert 5 (none) GW R_Sd D vwCl g (Zk g) A) (htr : l.stackTraces = false) (hout : c.exceptionTable.isEmpty = true) (x1 : Int32) (x2 : Int32) (x3 : Int32) (σ : Sg) (H : Heap) (locs : List Loc) (ls : Array Slot) (hl : lv_has ls 5 [(0, .ref (g.1 51)), (1, .int x1), (2, .int x2), (3, .int x3)]) (hst : Wst D vwCl (WS g) A s σ H locs) (h : wq_Sd_insert_io x1 x2 x3 σ post) : W p l e { frames := 6, cells := 1, slots := 6, locals := 100 } s m args below meth c H locs 0 0 (MQT below E_io (fun t => ∃ σ1, post σ1 ∧ Bw D vwCl (WS g) A σ1 t) A s 1 6) (F0 m 0 ls []) := by
  obtain ⟨hx, hb, hr, hml, hown, hts, hlocks, hK, hZ, hA⟩ := C
  unfold wq_Sd_insert_io at h
  refine lv_iload_n hx hb d_Sd_insert_0 rfl (lv_at hl 1 rfl) ?_
  refine kw_calli (va_runS (As := [.int x1]) (rest := []) ⟨hx, hb, hml, hown, hts⟩ (c_Sd_isText l x1 h) (cwS 1 hts (gd_s gw431 gw432 gw1 gw433) rfl rfl rfl (by decide +kernel) ⟨Nat.le_of_ble_eq_true rfl, Nat.le_of_ble_eq_true rfl⟩) ⟨kw_blind (Zk_ok g), kw_pre (Zk_ok g) hK hZ hA hst⟩ rfl rfl hl.1 rfl (lv_room (Nat.le_of_ble_eq_true rfl)) d_Sd_insert_1 ⟨Nat.le_of_ble_eq_true rfl, Nat.le_of_ble_eq_true rfl⟩) hst hA (fun r1 σ1 H locs h hst => ?_)
  refine lv_if_eq (tgt := 14) hx hb d_Sd_insert_4 (by decide) (fun hc => ?_) (fun hc => ?_)
  · replace h := h.1 hc
    exact h.elim
  · replace h := h.2 hc
    refine lv_iload_n hx hb d_Sd_insert_7 rfl (lv_at hl 3 rfl) ?_
    refine kw_calli (va_runS (As := [.int x3]) (rest := []) ⟨hx, hb, hml, hown, hts⟩ (c_Sd_isCharacter l x3 h) (cwS 1 hts (gd_s gw434 gw435 gw1 gw436) rfl rfl rfl (by decide +kernel) ⟨Nat.le_of_ble_eq_true rfl, Nat.le_of_ble_eq_true rfl⟩) ⟨kw_blind (Zk_ok g), kw_pre (Zk_ok g) hK hZ hA hst⟩ rfl rfl hl.1 rfl (lv_room (Nat.le_of_ble_eq_true rfl)) d_Sd_insert_8 ⟨Nat.le_of_ble_eq_true rfl, Nat.le_of_ble_eq_true rfl⟩) hst hA (fun r2 σ2 H locs h hst => ?_)
    refine lv_if_ne (tgt := 22) hx hb d_Sd_insert_11 (by decide) (fun hc => ?_) (fun hc => ?_)
    · replace h := h.1 hc
      refine lv_aload_n hx hb d_Sd_insert_22 rfl (lv_at hl 0 rfl) ?_
      refine lv_iload_n hx hb d_Sd_insert_23 rfl (lv_at hl 1 rfl) ?_
      refine kw_callr (va_runV (As := [.int x1]) (rest := []) (b := g.1 51) ⟨hx, hb, hml, hown, hts⟩ (c_Sd_textOf l x1 h) (cwV 1 hts (gd_v gw437 gw439 gs0 gw1 gw440) rfl rfl rfl (by decide +kernel) ⟨Nat.le_of_ble_eq_true rfl, Nat.le_of_ble_eq_true rfl⟩) ⟨kw_blind (Zk_ok g), va_recv hK hst.1 rfl (WS_o51 g σ2), kw_pre (Zk_ok g) hK hZ hA hst⟩ rfl rfl hl.1 rfl (lv_room (Nat.le_of_ble_eq_true rfl)) d_Sd_insert_24 ⟨Nat.le_of_ble_eq_true rfl, Nat.le_of_ble_eq_true rfl⟩) hst hA (fun r3 σ3 H locs h hst => ?_)
      obtain ⟨hb1, h⟩ := h
      rcases hb1 with rfl | rfl
      · refine lv_astore hx hb d_Sd_insert_27 hl (by decide) rfl (fun ls hl => ?_)
        have hl : lv_has ls 5 [(4, .ref (g.1 10)), (0, .ref (g.1 51)), (1, .int x1), (2, .int x2), (3, .int x3)] := hl
        refine lv_iload_n hx hb d_Sd_insert_29 rfl (lv_at hl 3 rfl) ?_
        refine lv_if_lt (tgt := 42) hx hb d_Sd_insert_30 (by decide) (fun hc => ?_) (fun hc => ?_)
        · replace h := h.1 hc
          exact kt_throw (E := E_io) (ia := 115) (ic := 117) hx hb hown hlocks htr (by decide) hts (Zk_ok g) hZ hst (at_io g A) gw543 gw544 gw21 hout (hl.1.trans hml.symm) (Nat.le_of_ble_eq_true rfl) (Nat.le_of_ble_eq_true rfl) (Nat.le_of_ble_eq_true rfl) (Nat.le_of_ble_eq_true rfl) h d_Sd_insert_42 d_Sd_insert_45 d_Sd_insert_46 d_Sd_insert_49
        · replace h := h.2 hc
          refine lv_iload_n hx hb d_Sd_insert_33 rfl (lv_at hl 3 rfl) ?_
          refine lv_aload hx hb d_Sd_insert_34 (lv_at hl 0 rfl) ?_
          refine va_get (D := D) (ci := 1) (C := R_Tx) (T := T_Tx) (N := 2) hx hb hts in_Tx hown hK hst.1 10 (WS_o10 g σ3) rfl 1 (by decide) (hts _ gw113) (fun _ h9 => h9) rfl d_Sd_insert_36 ?_
          refine lv_icmp_le (tgt := 50) hx hb d_Sd_insert_39 (by decide) (fun hc => ?_) (fun hc => ?_)
          · replace h := h.1 hc
            exact h.elim
          · replace h := h.2 hc
            exact kt_throw (E := E_io) (ia := 115) (ic := 117) hx hb hown hlocks htr (by decide) hts (Zk_ok g) hZ hst (at_io g A) gw543 gw544 gw21 hout (hl.1.trans hml.symm) (Nat.le_of_ble_eq_true rfl) (Nat.le_of_ble_eq_true rfl) (Nat.le_of_ble_eq_true rfl) (Nat.le_of_ble_eq_true rfl) h d_Sd_insert_42 d_Sd_insert_45 d_Sd_insert_46 d_Sd_insert_49
      · refine lv_astore hx hb d_Sd_insert_27 hl (by decide) rfl (fun ls hl => ?_)
        have hl : lv_has ls 5 [(4, .ref (g.1 23)), (0, .ref (g.1 51)), (1, .int x1), (2, .int x2), (3, .int x3)] := hl
        refine lv_iload_n hx hb d_Sd_insert_29 rfl (lv_at hl 3 rfl) ?_
        refine lv_if_lt (tgt := 42) hx hb d_Sd_insert_30 (by decide) (fun hc => ?_) (fun hc => ?_)
        · replace h := h.1 hc
          exact kt_throw (E := E_io) (ia := 115) (ic := 117) hx hb hown hlocks htr (by decide) hts (Zk_ok g) hZ hst (at_io g A) gw543 gw544 gw21 hout (hl.1.trans hml.symm) (Nat.le_of_ble_eq_true rfl) (Nat.le_of_ble_eq_true rfl) (Nat.le_of_ble_eq_true rfl) (Nat.le_of_ble_eq_true rfl) h d_Sd_insert_42 d_Sd_insert_45 d_Sd_insert_46 d_Sd_insert_49
        · replace h := h.2 hc
          refine lv_iload_n hx hb d_Sd_insert_33 rfl (lv_at hl 3 rfl) ?_
          refine lv_aload hx hb d_Sd_insert_34 (lv_at hl 0 rfl) ?_
          refine va_get (D := D) (ci := 1) (C := R_Tx) (T := T_Tx) (N := 2) hx hb hts in_Tx hown hK hst.1 23 (WS_o23 g σ3) rfl 1 (by decide) (hts _ gw113) (fun _ h9 => h9) rfl d_Sd_insert_36 ?_
          refine lv_icmp_le (tgt := 50) hx hb d_Sd_insert_39 (by decide) (fun hc => ?_) (fun hc => ?_)
          · replace h := h.1 hc
            exact h.elim
          · replace h := h.2 hc
            exact kt_throw (E := E_io) (ia := 115) (ic := 117) hx hb hown hlocks htr (by decide) hts (Zk_ok g) hZ hst (at_io g A) gw543 gw544 gw21 hout (hl.1.trans hml.symm) (Nat.le_of_ble_eq_true rfl) (Nat.le_of_ble_eq_true rfl) (Nat.le_of_ble_eq_true rfl) (Nat.le_of_ble_eq_true rfl) h d_Sd_insert_42 d_Sd_insert_45 d_Sd_insert_46 d_Sd_insert_49
    · replace h := h.2 hc
      exact h.elim
set_option maxRecDepth 100000 in
set_option maxHeartbeats 4000000 in
theorem c_Sd_insert_io (l : Launch) {D : va_G} {g : Gm} (htr : l.stackTraces = false) {sz : Nat} (x1 : Int32) (x2 : Int32) (x3 : Int32) {σ : Sg} {post : Sg → Prop} (h : wq_Sd_insert_io x1 x2 x3 σ post) : MetT l y_Sd_insert (.code y_Sd_insert k_Sd_insert 5 (none) :: GW) { frames := 6, cells := 1, slots := 6, locals := 100 } (PcW D vwCl (WS g) g (Zk g) σ sz [.ref (g.1 51), .int x1, .int x2, .int x3]) E_io (fun t => ∃ σ1, post σ1 ∧ Bw D vwCl (WS g) (va_A (WS g σ) sz) σ1 t) (va_A (WS g σ) sz) 1 6 := by
  refine kt_entry (own := R_Sd) (by decide) rfl rfl (Nat.le_of_ble_eq_true rfl) ?_
  intro p e s m below meth c ls hsz C hout hl hst
  exact b_Sd_insert_io_0 C htr hout x1 x2 x3 σ _ _ ls hl hst h
theorem gw558 : (Jvm.Cond.classLink "SchemaDesk" (118 : Nat) "java/lang/IllegalStateException") ∈ GW := gw_t3 (List.mem_of_getElem? (i := 78) rfl) rfl
theorem gw22 : (Jvm.Cond.initialized "java/lang/IllegalStateException") ∈ GW := gw_t1 (List.mem_of_getElem? (i := 22) rfl) rfl
def wq_Sd_insert_is (x1 : Int32) (x2 : Int32) (x3 : Int32) (σ : Sg) (post : Sg → Prop) : Prop := (wq_Sd_isText x1 σ (fun r1 σ1 => ((r1 = 0 → False) ∧ (¬ r1 = 0 → (wq_Sd_isCharacter x3 σ1 (fun r2 σ2 => ((¬ r2 = 0 → (wq_Sd_textOf x1 σ2 (fun r3 σ3 => (r3 = 0 ∨ r3 = 13) ∧ ((x2 < 0 → False) ∧ (¬ x2 < 0 → ((x2 ≤ (σ3.1 (r3 + 10) 1) → (wq_Tx_room r3 σ3 (fun r4 σ4 => (((1 : Int32) ≤ r4 → False) ∧ (¬ (1 : Int32) ≤ r4 → post σ4))))) ∧ (¬ x2 ≤ (σ3.1 (r3 + 10) 1) → False))))))) ∧ (r2 = 0 → False))))))))
set_option maxRecDepth 100000 in
set_option maxHeartbeats 4000000 in
theorem b_Sd_insert_is_0 {p : Program} {l : Launch} {e : Env} {s : State} {m : MethodId} {args : Array Value} {below : List Frame} {meth : Method} {c : Code} {D : va_G} {g : Gm} {A : Nat → Prop} {post : Sg → Prop} (C : kC p s m args meth c k_Sd_insert 5 (none) GW R_Sd D vwCl g (Zk g) A) (htr : l.stackTraces = false) (hout : c.exceptionTable.isEmpty = true) (x1 : Int32) (x2 : Int32) (x3 : Int32) (σ : Sg) (H : Heap) (locs : List Loc) (ls : Array Slot) (hl : lv_has ls 5 [(0, .ref (g.1 51)), (1, .int x1), (2, .int x2), (3, .int x3)]) (hst : Wst D vwCl (WS g) A s σ H locs) (h : wq_Sd_insert_is x1 x2 x3 σ post) : W p l e { frames := 6, cells := 1, slots := 6, locals := 100 } s m args below meth c H locs 0 0 (MQT below E_is (fun t => ∃ σ1, post σ1 ∧ Bw D vwCl (WS g) A σ1 t) A s 1 6) (F0 m 0 ls []) := by
  obtain ⟨hx, hb, hr, hml, hown, hts, hlocks, hK, hZ, hA⟩ := C
  unfold wq_Sd_insert_is at h
  refine lv_iload_n hx hb d_Sd_insert_0 rfl (lv_at hl 1 rfl) ?_
  refine kw_calli (va_runS (As := [.int x1]) (rest := []) ⟨hx, hb, hml, hown, hts⟩ (c_Sd_isText l x1 h) (cwS 1 hts (gd_s gw431 gw432 gw1 gw433) rfl rfl rfl (by decide +kernel) ⟨Nat.le_of_ble_eq_true rfl, Nat.le_of_ble_eq_true rfl⟩) ⟨kw_blind (Zk_ok g), kw_pre (Zk_ok g) hK hZ hA hst⟩ rfl rfl hl.1 rfl (lv_room (Nat.le_of_ble_eq_true rfl)) d_Sd_insert_1 ⟨Nat.le_of_ble_eq_true rfl, Nat.le_of_ble_eq_true rfl⟩) hst hA (fun r1 σ1 H locs h hst => ?_)
  refine lv_if_eq (tgt := 14) hx hb d_Sd_insert_4 (by decide) (fun hc => ?_) (fun hc => ?_)
  · replace h := h.1 hc
    exact h.elim
  · replace h := h.2 hc
    refine lv_iload_n hx hb d_Sd_insert_7 rfl (lv_at hl 3 rfl) ?_
    refine kw_calli (va_runS (As := [.int x3]) (rest := []) ⟨hx, hb, hml, hown, hts⟩ (c_Sd_isCharacter l x3 h) (cwS 1 hts (gd_s gw434 gw435 gw1 gw436) rfl rfl rfl (by decide +kernel) ⟨Nat.le_of_ble_eq_true rfl, Nat.le_of_ble_eq_true rfl⟩) ⟨kw_blind (Zk_ok g), kw_pre (Zk_ok g) hK hZ hA hst⟩ rfl rfl hl.1 rfl (lv_room (Nat.le_of_ble_eq_true rfl)) d_Sd_insert_8 ⟨Nat.le_of_ble_eq_true rfl, Nat.le_of_ble_eq_true rfl⟩) hst hA (fun r2 σ2 H locs h hst => ?_)
    refine lv_if_ne (tgt := 22) hx hb d_Sd_insert_11 (by decide) (fun hc => ?_) (fun hc => ?_)
    · replace h := h.1 hc
      refine lv_aload_n hx hb d_Sd_insert_22 rfl (lv_at hl 0 rfl) ?_
      refine lv_iload_n hx hb d_Sd_insert_23 rfl (lv_at hl 1 rfl) ?_
      refine kw_callr (va_runV (As := [.int x1]) (rest := []) (b := g.1 51) ⟨hx, hb, hml, hown, hts⟩ (c_Sd_textOf l x1 h) (cwV 1 hts (gd_v gw437 gw439 gs0 gw1 gw440) rfl rfl rfl (by decide +kernel) ⟨Nat.le_of_ble_eq_true rfl, Nat.le_of_ble_eq_true rfl⟩) ⟨kw_blind (Zk_ok g), va_recv hK hst.1 rfl (WS_o51 g σ2), kw_pre (Zk_ok g) hK hZ hA hst⟩ rfl rfl hl.1 rfl (lv_room (Nat.le_of_ble_eq_true rfl)) d_Sd_insert_24 ⟨Nat.le_of_ble_eq_true rfl, Nat.le_of_ble_eq_true rfl⟩) hst hA (fun r3 σ3 H locs h hst => ?_)
      obtain ⟨hb1, h⟩ := h
      rcases hb1 with rfl | rfl
      · refine lv_astore hx hb d_Sd_insert_27 hl (by decide) rfl (fun ls hl => ?_)
        have hl : lv_has ls 5 [(4, .ref (g.1 10)), (0, .ref (g.1 51)), (1, .int x1), (2, .int x2), (3, .int x3)] := hl
        refine lv_iload_n hx hb d_Sd_insert_29 rfl (lv_at hl 3 rfl) ?_
        refine lv_if_lt (tgt := 42) hx hb d_Sd_insert_30 (by decide) (fun hc => ?_) (fun hc => ?_)
        · replace h := h.1 hc
          exact h.elim
        · replace h := h.2 hc
          refine lv_iload_n hx hb d_Sd_insert_33 rfl (lv_at hl 3 rfl) ?_
          refine lv_aload hx hb d_Sd_insert_34 (lv_at hl 0 rfl) ?_
          refine va_get (D := D) (ci := 1) (C := R_Tx) (T := T_Tx) (N := 2) hx hb hts in_Tx hown hK hst.1 10 (WS_o10 g σ3) rfl 1 (by decide) (hts _ gw113) (fun _ h9 => h9) rfl d_Sd_insert_36 ?_
          refine lv_icmp_le (tgt := 50) hx hb d_Sd_insert_39 (by decide) (fun hc => ?_) (fun hc => ?_)
          · replace h := h.1 hc
            refine lv_aload hx hb d_Sd_insert_50 (lv_at hl 0 rfl) ?_
            refine kw_calli (va_runV (As := []) (rest := []) (b := g.1 10) ⟨hx, hb, hml, hown, hts⟩ (c_Tx_room_0 l h) (cwV 0 hts (gd_v gw441 gw442 gw443 gw8 gw444) rfl rfl rfl (by decide +kernel) ⟨Nat.le_of_ble_eq_true rfl, Nat.le_of_ble_eq_true rfl⟩) ⟨kw_blind (Zk_ok g), va_recv hK hst.1 rfl (WS_o10 g σ3), kw_pre (Zk_ok g) hK hZ hA hst⟩ rfl rfl hl.1 rfl (lv_room (Nat.le_of_ble_eq_true rfl)) d_Sd_insert_52 ⟨Nat.le_of_ble_eq_true rfl, Nat.le_of_ble_eq_true rfl⟩) hst hA (fun r4 σ4 H locs h hst => ?_)
            refine lv_iconst (v := (1 : Int32)) hx hb d_Sd_insert_55 (by decide) ?_
            refine lv_icmp_ge (tgt := 67) hx hb d_Sd_insert_56 (by decide) (fun hc => ?_) (fun hc => ?_)
            · replace h := h.1 hc
              exact h.elim
            · replace h := h.2 hc
              exact kt_throw (E := E_is) (ia := 118) (ic := 120) hx hb hown hlocks htr (by decide) hts (Zk_ok g) hZ hst (at_is g A) gw558 gw559 gw22 hout (hl.1.trans hml.symm) (Nat.le_of_ble_eq_true rfl) (Nat.le_of_ble_eq_true rfl) (Nat.le_of_ble_eq_true rfl) (Nat.le_of_ble_eq_true rfl) h d_Sd_insert_59 d_Sd_insert_62 d_Sd_insert_63 d_Sd_insert_66
          · replace h := h.2 hc
            exact h.elim
      · refine lv_astore hx hb d_Sd_insert_27 hl (by decide) rfl (fun ls hl => ?_)
        have hl : lv_has ls 5 [(4, .ref (g.1 23)), (0, .ref (g.1 51)), (1, .int x1), (2, .int x2), (3, .int x3)] := hl
        refine lv_iload_n hx hb d_Sd_insert_29 rfl (lv_at hl 3 rfl) ?_
        refine lv_if_lt (tgt := 42) hx hb d_Sd_insert_30 (by decide) (fun hc => ?_) (fun hc => ?_)
        · replace h := h.1 hc
          exact h.elim
        · replace h := h.2 hc
          refine lv_iload_n hx hb d_Sd_insert_33 rfl (lv_at hl 3 rfl) ?_
          refine lv_aload hx hb d_Sd_insert_34 (lv_at hl 0 rfl) ?_
          refine va_get (D := D) (ci := 1) (C := R_Tx) (T := T_Tx) (N := 2) hx hb hts in_Tx hown hK hst.1 23 (WS_o23 g σ3) rfl 1 (by decide) (hts _ gw113) (fun _ h9 => h9) rfl d_Sd_insert_36 ?_
          refine lv_icmp_le (tgt := 50) hx hb d_Sd_insert_39 (by decide) (fun hc => ?_) (fun hc => ?_)
          · replace h := h.1 hc
            refine lv_aload hx hb d_Sd_insert_50 (lv_at hl 0 rfl) ?_
            refine kw_calli (va_runV (As := []) (rest := []) (b := g.1 23) ⟨hx, hb, hml, hown, hts⟩ (c_Tx_room_13 l h) (cwV 0 hts (gd_v gw441 gw442 gw443 gw8 gw444) rfl rfl rfl (by decide +kernel) ⟨Nat.le_of_ble_eq_true rfl, Nat.le_of_ble_eq_true rfl⟩) ⟨kw_blind (Zk_ok g), va_recv hK hst.1 rfl (WS_o23 g σ3), kw_pre (Zk_ok g) hK hZ hA hst⟩ rfl rfl hl.1 rfl (lv_room (Nat.le_of_ble_eq_true rfl)) d_Sd_insert_52 ⟨Nat.le_of_ble_eq_true rfl, Nat.le_of_ble_eq_true rfl⟩) hst hA (fun r4 σ4 H locs h hst => ?_)
            refine lv_iconst (v := (1 : Int32)) hx hb d_Sd_insert_55 (by decide) ?_
            refine lv_icmp_ge (tgt := 67) hx hb d_Sd_insert_56 (by decide) (fun hc => ?_) (fun hc => ?_)
            · replace h := h.1 hc
              exact h.elim
            · replace h := h.2 hc
              exact kt_throw (E := E_is) (ia := 118) (ic := 120) hx hb hown hlocks htr (by decide) hts (Zk_ok g) hZ hst (at_is g A) gw558 gw559 gw22 hout (hl.1.trans hml.symm) (Nat.le_of_ble_eq_true rfl) (Nat.le_of_ble_eq_true rfl) (Nat.le_of_ble_eq_true rfl) (Nat.le_of_ble_eq_true rfl) h d_Sd_insert_59 d_Sd_insert_62 d_Sd_insert_63 d_Sd_insert_66
          · replace h := h.2 hc
            exact h.elim
    · replace h := h.2 hc
      exact h.elim
set_option maxRecDepth 100000 in
set_option maxHeartbeats 4000000 in
theorem c_Sd_insert_is (l : Launch) {D : va_G} {g : Gm} (htr : l.stackTraces = false) {sz : Nat} (x1 : Int32) (x2 : Int32) (x3 : Int32) {σ : Sg} {post : Sg → Prop} (h : wq_Sd_insert_is x1 x2 x3 σ post) : MetT l y_Sd_insert (.code y_Sd_insert k_Sd_insert 5 (none) :: GW) { frames := 6, cells := 1, slots := 6, locals := 100 } (PcW D vwCl (WS g) g (Zk g) σ sz [.ref (g.1 51), .int x1, .int x2, .int x3]) E_is (fun t => ∃ σ1, post σ1 ∧ Bw D vwCl (WS g) (va_A (WS g σ) sz) σ1 t) (va_A (WS g σ) sz) 1 6 := by
  refine kt_entry (own := R_Sd) (by decide) rfl rfl (Nat.le_of_ble_eq_true rfl) ?_
  intro p e s m below meth c ls hsz C hout hl hst
  exact b_Sd_insert_is_0 C htr hout x1 x2 x3 σ _ _ ls hl hst h
def wq_Sd_remove_ia (x1 : Int32) (x2 : Int32) (x3 : Int32) (σ : Sg) (post : Sg → Prop) : Prop := (wq_Sd_isText x1 σ (fun r1 σ1 => ((r1 = 0 → post σ1) ∧ (¬ r1 = 0 → ((0 ≤ x3 → False) ∧ (¬ 0 ≤ x3 → post σ1))))))
set_option maxRecDepth 100000 in
set_option maxHeartbeats 4000000 in
theorem b_Sd_remove_ia_0 {p : Program} {l : Launch} {e : Env} {s : State} {m : MethodId} {args : Array Value} {below : List Frame} {meth : Method} {c : Code} {D : va_G} {g : Gm} {A : Nat → Prop} {post : Sg → Prop} (C : kC p s m args meth c k_Sd_remove 5 (none) GW R_Sd D vwCl g (Zk g) A) (htr : l.stackTraces = false) (hout : c.exceptionTable.isEmpty = true) (x1 : Int32) (x2 : Int32) (x3 : Int32) (σ : Sg) (H : Heap) (locs : List Loc) (ls : Array Slot) (hl : lv_has ls 5 [(0, .ref (g.1 51)), (1, .int x1), (2, .int x2), (3, .int x3)]) (hst : Wst D vwCl (WS g) A s σ H locs) (h : wq_Sd_remove_ia x1 x2 x3 σ post) : W p l e { frames := 6, cells := 1, slots := 6, locals := 100 } s m args below meth c H locs 0 0 (MQT below E_ia (fun t => ∃ σ1, post σ1 ∧ Bw D vwCl (WS g) A σ1 t) A s 1 6) (F0 m 0 ls []) := by
  obtain ⟨hx, hb, hr, hml, hown, hts, hlocks, hK, hZ, hA⟩ := C
  unfold wq_Sd_remove_ia at h
  refine lv_iload_n hx hb d_Sd_remove_0 rfl (lv_at hl 1 rfl) ?_
  refine kw_calli (va_runS (As := [.int x1]) (rest := []) ⟨hx, hb, hml, hown, hts⟩ (c_Sd_isText l x1 h) (cwS 1 hts (gd_s gw431 gw432 gw1 gw433) rfl rfl rfl (by decide +kernel) ⟨Nat.le_of_ble_eq_true rfl, Nat.le_of_ble_eq_true rfl⟩) ⟨kw_blind (Zk_ok g), kw_pre (Zk_ok g) hK hZ hA hst⟩ rfl rfl hl.1 rfl (lv_room (Nat.le_of_ble_eq_true rfl)) d_Sd_remove_1 ⟨Nat.le_of_ble_eq_true rfl, Nat.le_of_ble_eq_true rfl⟩) hst hA (fun r1 σ1 H locs h hst => ?_)
  refine lv_if_eq (tgt := 11) hx hb d_Sd_remove_4 (by decide) (fun hc => ?_) (fun hc => ?_)
  · replace h := h.1 hc
    exact kt_throw (E := E_ia) (ia := 112) (ic := 114) hx hb hown hlocks htr (by decide) hts (Zk_ok g) hZ hst (at_ia g A) gw478 gw479 gw20 hout (hl.1.trans hml.symm) (Nat.le_of_ble_eq_true rfl) (Nat.le_of_ble_eq_true rfl) (Nat.le_of_ble_eq_true rfl) (Nat.le_of_ble_eq_true rfl) h d_Sd_remove_11 d_Sd_remove_14 d_Sd_remove_15 d_Sd_remove_18
  · replace h := h.2 hc
    refine lv_iload_n hx hb d_Sd_remove_7 rfl (lv_at hl 3 rfl) ?_
    refine lv_if_ge (tgt := 19) hx hb d_Sd_remove_8 (by decide) (fun hc => ?_) (fun hc => ?_)
    · replace h := h.1 hc
      exact h.elim
    · replace h := h.2 hc
      exact kt_throw (E := E_ia) (ia := 112) (ic := 114) hx hb hown hlocks htr (by decide) hts (Zk_ok g) hZ hst (at_ia g A) gw478 gw479 gw20 hout (hl.1.trans hml.symm) (Nat.le_of_ble_eq_true rfl) (Nat.le_of_ble_eq_true rfl) (Nat.le_of_ble_eq_true rfl) (Nat.le_of_ble_eq_true rfl) h d_Sd_remove_11 d_Sd_remove_14 d_Sd_remove_15 d_Sd_remove_18
set_option maxRecDepth 100000 in
set_option maxHeartbeats 4000000 in
theorem c_Sd_remove_ia (l : Launch) {D : va_G} {g : Gm} (htr : l.stackTraces = false) {sz : Nat} (x1 : Int32) (x2 : Int32) (x3 : Int32) {σ : Sg} {post : Sg → Prop} (h : wq_Sd_remove_ia x1 x2 x3 σ post) : MetT l y_Sd_remove (.code y_Sd_remove k_Sd_remove 5 (none) :: GW) { frames := 6, cells := 1, slots := 6, locals := 100 } (PcW D vwCl (WS g) g (Zk g) σ sz [.ref (g.1 51), .int x1, .int x2, .int x3]) E_ia (fun t => ∃ σ1, post σ1 ∧ Bw D vwCl (WS g) (va_A (WS g σ) sz) σ1 t) (va_A (WS g σ) sz) 1 6 := by
  refine kt_entry (own := R_Sd) (by decide) rfl rfl (Nat.le_of_ble_eq_true rfl) ?_
  intro p e s m below meth c ls hsz C hout hl hst
  exact b_Sd_remove_ia_0 C htr hout x1 x2 x3 σ _ _ ls hl hst h
def wq_Sd_remove_io (x1 : Int32) (x2 : Int32) (x3 : Int32) (σ : Sg) (post : Sg → Prop) : Prop := (wq_Sd_isText x1 σ (fun r1 σ1 => ((r1 = 0 → False) ∧ (¬ r1 = 0 → ((0 ≤ x3 → (wq_Sd_textOf x1 σ1 (fun r2 σ2 => (r2 = 0 ∨ r2 = 13) ∧ ((x2 < 0 → post σ2) ∧ (¬ x2 < 0 → ((x3 ≤ ((σ2.1 (r2 + 10) 1) - x2) → False) ∧ (¬ x3 ≤ ((σ2.1 (r2 + 10) 1) - x2) → post σ2))))))) ∧ (¬ 0 ≤ x3 → False))))))
set_option maxRecDepth 100000 in
set_option maxHeartbeats 4000000 in
theorem b_Sd_remove_io_0 {p : Program} {l : Launch} {e : Env} {s : State} {m : MethodId} {args : Array Value} {below : List Frame} {meth : Method} {c : Code} {D : va_G} {g : Gm} {A : Nat → Prop} {post : Sg → Prop} (C : kC p s m args meth c k_Sd_remove 5 (none) GW R_Sd D vwCl g (Zk g) A) (htr : l.stackTraces = false) (hout : c.exceptionTable.isEmpty = true) (x1 : Int32) (x2 : Int32) (x3 : Int32) (σ : Sg) (H : Heap) (locs : List Loc) (ls : Array Slot) (hl : lv_has ls 5 [(0, .ref (g.1 51)), (1, .int x1), (2, .int x2), (3, .int x3)]) (hst : Wst D vwCl (WS g) A s σ H locs) (h : wq_Sd_remove_io x1 x2 x3 σ post) : W p l e { frames := 6, cells := 1, slots := 6, locals := 100 } s m args below meth c H locs 0 0 (MQT below E_io (fun t => ∃ σ1, post σ1 ∧ Bw D vwCl (WS g) A σ1 t) A s 1 6) (F0 m 0 ls []) := by
  obtain ⟨hx, hb, hr, hml, hown, hts, hlocks, hK, hZ, hA⟩ := C
  unfold wq_Sd_remove_io at h
  refine lv_iload_n hx hb d_Sd_remove_0 rfl (lv_at hl 1 rfl) ?_
  refine kw_calli (va_runS (As := [.int x1]) (rest := []) ⟨hx, hb, hml, hown, hts⟩ (c_Sd_isText l x1 h) (cwS 1 hts (gd_s gw431 gw432 gw1 gw433) rfl rfl rfl (by decide +kernel) ⟨Nat.le_of_ble_eq_true rfl, Nat.le_of_ble_eq_true rfl⟩) ⟨kw_blind (Zk_ok g), kw_pre (Zk_ok g) hK hZ hA hst⟩ rfl rfl hl.1 rfl (lv_room (Nat.le_of_ble_eq_true rfl)) d_Sd_remove_1 ⟨Nat.le_of_ble_eq_true rfl, Nat.le_of_ble_eq_true rfl⟩) hst hA (fun r1 σ1 H locs h hst => ?_)
  refine lv_if_eq (tgt := 11) hx hb d_Sd_remove_4 (by decide) (fun hc => ?_) (fun hc => ?_)
  · replace h := h.1 hc
    exact h.elim
  · replace h := h.2 hc
    refine lv_iload_n hx hb d_Sd_remove_7 rfl (lv_at hl 3 rfl) ?_
    refine lv_if_ge (tgt := 19) hx hb d_Sd_remove_8 (by decide) (fun hc => ?_) (fun hc => ?_)
    · replace h := h.1 hc
      refine lv_aload_n hx hb d_Sd_remove_19 rfl (lv_at hl 0 rfl) ?_
      refine lv_iload_n hx hb d_Sd_remove_20 rfl (lv_at hl 1 rfl) ?_
      refine kw_callr (va_runV (As := [.int x1]) (rest := []) (b := g.1 51) ⟨hx, hb, hml, hown, hts⟩ (c_Sd_textOf l x1 h) (cwV 1 hts (gd_v gw437 gw439 gs0 gw1 gw440) rfl rfl rfl (by decide +kernel) ⟨Nat.le_of_ble_eq_true rfl, Nat.le_of_ble_eq_true rfl⟩) ⟨kw_blind (Zk_ok g), va_recv hK hst.1 rfl (WS_o51 g σ1), kw_pre (Zk_ok g) hK hZ hA hst⟩ rfl rfl hl.1 rfl (lv_room (Nat.le_of_ble_eq_true rfl)) d_Sd_remove_21 ⟨Nat.le_of_ble_eq_true rfl, Nat.le_of_ble_eq_true rfl⟩) hst hA (fun r2 σ2 H locs h hst => ?_)
      obtain ⟨hb1, h⟩ := h
      rcases hb1 with rfl | rfl
      · refine lv_astore hx hb d_Sd_remove_24 hl (by decide) rfl (fun ls hl => ?_)
        have hl : lv_has ls 5 [(4, .ref (g.1 10)), (0, .ref (g.1 51)), (1, .int x1), (2, .int x2), (3, .int x3)] := hl
        refine lv_iload_n hx hb d_Sd_remove_26 rfl (lv_at hl 3 rfl) ?_
        refine lv_if_lt (tgt := 41) hx hb d_Sd_remove_27 (by decide) (fun hc => ?_) (fun hc => ?_)
        · replace h := h.1 hc
          exact kt_throw (E := E_io) (ia := 115) (ic := 117) hx hb hown hlocks htr (by decide) hts (Zk_ok g) hZ hst (at_io g A) gw543 gw544 gw21 hout (hl.1.trans hml.symm) (Nat.le_of_ble_eq_true rfl) (Nat.le_of_ble_eq_true rfl) (Nat.le_of_ble_eq_true rfl) (Nat.le_of_ble_eq_true rfl) h d_Sd_remove_41 d_Sd_remove_44 d_Sd_remove_45 d_Sd_remove_48
        · replace h := h.2 hc
          refine lv_iload_n hx hb d_Sd_remove_30 rfl (lv_at hl 4 rfl) ?_
          refine lv_aload hx hb d_Sd_remove_31 (lv_at hl 0 rfl) ?_
          refine va_get (D := D) (ci := 1) (C := R_Tx) (T := T_Tx) (N := 2) hx hb hts in_Tx hown hK hst.1 10 (WS_o10 g σ2) rfl 1 (by decide) (hts _ gw113) (fun _ h9 => h9) rfl d_Sd_remove_33 ?_
          refine lv_iload_n hx hb d_Sd_remove_36 rfl (lv_at hl 3 rfl) ?_
          refine lv_isub hx hb d_Sd_remove_37 ?_
          refine lv_icmp_le (tgt := 49) hx hb d_Sd_remove_38 (by decide) (fun hc => ?_) (fun hc => ?_)
          · replace h := h.1 hc
            exact h.elim
          · replace h := h.2 hc
            exact kt_throw (E := E_io) (ia := 115) (ic := 117) hx hb hown hlocks htr (by decide) hts (Zk_ok g) hZ hst (at_io g A) gw543 gw544 gw21 hout (hl.1.trans hml.symm) (Nat.le_of_ble_eq_true rfl) (Nat.le_of_ble_eq_true rfl) (Nat.le_of_ble_eq_true rfl) (Nat.le_of_ble_eq_true rfl) h d_Sd_remove_41 d_Sd_remove_44 d_Sd_remove_45 d_Sd_remove_48
      · refine lv_astore hx hb d_Sd_remove_24 hl (by decide) rfl (fun ls hl => ?_)
        have hl : lv_has ls 5 [(4, .ref (g.1 23)), (0, .ref (g.1 51)), (1, .int x1), (2, .int x2), (3, .int x3)] := hl
        refine lv_iload_n hx hb d_Sd_remove_26 rfl (lv_at hl 3 rfl) ?_
        refine lv_if_lt (tgt := 41) hx hb d_Sd_remove_27 (by decide) (fun hc => ?_) (fun hc => ?_)
        · replace h := h.1 hc
          exact kt_throw (E := E_io) (ia := 115) (ic := 117) hx hb hown hlocks htr (by decide) hts (Zk_ok g) hZ hst (at_io g A) gw543 gw544 gw21 hout (hl.1.trans hml.symm) (Nat.le_of_ble_eq_true rfl) (Nat.le_of_ble_eq_true rfl) (Nat.le_of_ble_eq_true rfl) (Nat.le_of_ble_eq_true rfl) h d_Sd_remove_41 d_Sd_remove_44 d_Sd_remove_45 d_Sd_remove_48
        · replace h := h.2 hc
          refine lv_iload_n hx hb d_Sd_remove_30 rfl (lv_at hl 4 rfl) ?_
          refine lv_aload hx hb d_Sd_remove_31 (lv_at hl 0 rfl) ?_
          refine va_get (D := D) (ci := 1) (C := R_Tx) (T := T_Tx) (N := 2) hx hb hts in_Tx hown hK hst.1 23 (WS_o23 g σ2) rfl 1 (by decide) (hts _ gw113) (fun _ h9 => h9) rfl d_Sd_remove_33 ?_
          refine lv_iload_n hx hb d_Sd_remove_36 rfl (lv_at hl 3 rfl) ?_
          refine lv_isub hx hb d_Sd_remove_37 ?_
          refine lv_icmp_le (tgt := 49) hx hb d_Sd_remove_38 (by decide) (fun hc => ?_) (fun hc => ?_)
          · replace h := h.1 hc
            exact h.elim
          · replace h := h.2 hc
            exact kt_throw (E := E_io) (ia := 115) (ic := 117) hx hb hown hlocks htr (by decide) hts (Zk_ok g) hZ hst (at_io g A) gw543 gw544 gw21 hout (hl.1.trans hml.symm) (Nat.le_of_ble_eq_true rfl) (Nat.le_of_ble_eq_true rfl) (Nat.le_of_ble_eq_true rfl) (Nat.le_of_ble_eq_true rfl) h d_Sd_remove_41 d_Sd_remove_44 d_Sd_remove_45 d_Sd_remove_48
    · replace h := h.2 hc
      exact h.elim
set_option maxRecDepth 100000 in
set_option maxHeartbeats 4000000 in
theorem c_Sd_remove_io (l : Launch) {D : va_G} {g : Gm} (htr : l.stackTraces = false) {sz : Nat} (x1 : Int32) (x2 : Int32) (x3 : Int32) {σ : Sg} {post : Sg → Prop} (h : wq_Sd_remove_io x1 x2 x3 σ post) : MetT l y_Sd_remove (.code y_Sd_remove k_Sd_remove 5 (none) :: GW) { frames := 6, cells := 1, slots := 6, locals := 100 } (PcW D vwCl (WS g) g (Zk g) σ sz [.ref (g.1 51), .int x1, .int x2, .int x3]) E_io (fun t => ∃ σ1, post σ1 ∧ Bw D vwCl (WS g) (va_A (WS g σ) sz) σ1 t) (va_A (WS g σ) sz) 1 6 := by
  refine kt_entry (own := R_Sd) (by decide) rfl rfl (Nat.le_of_ble_eq_true rfl) ?_
  intro p e s m below meth c ls hsz C hout hl hst
  exact b_Sd_remove_io_0 C htr hout x1 x2 x3 σ _ _ ls hl hst h
def wq_Sd_length_ia (x1 : Int32) (σ : Sg) (post : Sg → Prop) : Prop := (wq_Sd_isText x1 σ (fun r1 σ1 => ((¬ r1 = 0 → False) ∧ (r1 = 0 → post σ1))))
set_option maxRecDepth 100000 in
set_option maxHeartbeats 4000000 in
theorem b_Sd_length_ia_0 {p : Program} {l : Launch} {e : Env} {s : State} {m : MethodId} {args : Array Value} {below : List Frame} {meth : Method} {c : Code} {D : va_G} {g : Gm} {A : Nat → Prop} {post : Sg → Prop} (C : kC p s m args meth c k_Sd_length 2 (some .int) GW R_Sd D vwCl g (Zk g) A) (htr : l.stackTraces = false) (hout : c.exceptionTable.isEmpty = true) (x1 : Int32) (σ : Sg) (H : Heap) (locs : List Loc) (ls : Array Slot) (hl : lv_has ls 2 [(0, .ref (g.1 51)), (1, .int x1)]) (hst : Wst D vwCl (WS g) A s σ H locs) (h : wq_Sd_length_ia x1 σ post) : W p l e { frames := 6, cells := 1, slots := 6, locals := 100 } s m args below meth c H locs 0 0 (MQT below E_ia (fun t => ∃ σ1, post σ1 ∧ Bw D vwCl (WS g) A σ1 t) A s 1 6) (F0 m 0 ls []) := by
  obtain ⟨hx, hb, hr, hml, hown, hts, hlocks, hK, hZ, hA⟩ := C
  unfold wq_Sd_length_ia at h
  refine lv_iload_n hx hb d_Sd_length_0 rfl (lv_at hl 1 rfl) ?_
  refine kw_calli (va_runS (As := [.int x1]) (rest := []) ⟨hx, hb, hml, hown, hts⟩ (c_Sd_isText l x1 h) (cwS 1 hts (gd_s gw431 gw432 gw1 gw433) rfl rfl rfl (by decide +kernel) ⟨Nat.le_of_ble_eq_true rfl, Nat.le_of_ble_eq_true rfl⟩) ⟨kw_blind (Zk_ok g), kw_pre (Zk_ok g) hK hZ hA hst⟩ rfl rfl hl.1 rfl (lv_room (Nat.le_of_ble_eq_true rfl)) d_Sd_length_1 ⟨Nat.le_of_ble_eq_true rfl, Nat.le_of_ble_eq_true rfl⟩) hst hA (fun r1 σ1 H locs h hst => ?_)
  refine lv_if_ne (tgt := 15) hx hb d_Sd_length_4 (by decide) (fun hc => ?_) (fun hc => ?_)
  · replace h := h.1 hc
    exact h.elim
  · replace h := h.2 hc
    exact kt_throw (E := E_ia) (ia := 112) (ic := 114) hx hb hown hlocks htr (by decide) hts (Zk_ok g) hZ hst (at_ia g A) gw478 gw479 gw20 hout (hl.1.trans hml.symm) (Nat.le_of_ble_eq_true rfl) (Nat.le_of_ble_eq_true rfl) (Nat.le_of_ble_eq_true rfl) (Nat.le_of_ble_eq_true rfl) h d_Sd_length_7 d_Sd_length_10 d_Sd_length_11 d_Sd_length_14
set_option maxRecDepth 100000 in
set_option maxHeartbeats 4000000 in
theorem c_Sd_length_ia (l : Launch) {D : va_G} {g : Gm} (htr : l.stackTraces = false) {sz : Nat} (x1 : Int32) {σ : Sg} {post : Sg → Prop} (h : wq_Sd_length_ia x1 σ post) : MetT l y_Sd_length (.code y_Sd_length k_Sd_length 2 (some .int) :: GW) { frames := 6, cells := 1, slots := 6, locals := 100 } (PcW D vwCl (WS g) g (Zk g) σ sz [.ref (g.1 51), .int x1]) E_ia (fun t => ∃ σ1, post σ1 ∧ Bw D vwCl (WS g) (va_A (WS g σ) sz) σ1 t) (va_A (WS g σ) sz) 1 6 := by
  refine kt_entry (own := R_Sd) (by decide) rfl rfl (Nat.le_of_ble_eq_true rfl) ?_
  intro p e s m below meth c ls hsz C hout hl hst
  exact b_Sd_length_ia_0 C htr hout x1 σ _ _ ls hl hst h
def wq_Sd_letter_ia (x1 : Int32) (x2 : Int32) (σ : Sg) (post : Sg → Prop) : Prop := (wq_Sd_isText x1 σ (fun r1 σ1 => ((¬ r1 = 0 → False) ∧ (r1 = 0 → post σ1))))
set_option maxRecDepth 100000 in
set_option maxHeartbeats 4000000 in
theorem b_Sd_letter_ia_0 {p : Program} {l : Launch} {e : Env} {s : State} {m : MethodId} {args : Array Value} {below : List Frame} {meth : Method} {c : Code} {D : va_G} {g : Gm} {A : Nat → Prop} {post : Sg → Prop} (C : kC p s m args meth c k_Sd_letter 4 (some .char) GW R_Sd D vwCl g (Zk g) A) (htr : l.stackTraces = false) (hout : c.exceptionTable.isEmpty = true) (x1 : Int32) (x2 : Int32) (σ : Sg) (H : Heap) (locs : List Loc) (ls : Array Slot) (hl : lv_has ls 4 [(0, .ref (g.1 51)), (1, .int x1), (2, .int x2)]) (hst : Wst D vwCl (WS g) A s σ H locs) (h : wq_Sd_letter_ia x1 x2 σ post) : W p l e { frames := 6, cells := 1, slots := 6, locals := 100 } s m args below meth c H locs 0 0 (MQT below E_ia (fun t => ∃ σ1, post σ1 ∧ Bw D vwCl (WS g) A σ1 t) A s 1 6) (F0 m 0 ls []) := by
  obtain ⟨hx, hb, hr, hml, hown, hts, hlocks, hK, hZ, hA⟩ := C
  unfold wq_Sd_letter_ia at h
  refine lv_iload_n hx hb d_Sd_letter_0 rfl (lv_at hl 1 rfl) ?_
  refine kw_calli (va_runS (As := [.int x1]) (rest := []) ⟨hx, hb, hml, hown, hts⟩ (c_Sd_isText l x1 h) (cwS 1 hts (gd_s gw431 gw432 gw1 gw433) rfl rfl rfl (by decide +kernel) ⟨Nat.le_of_ble_eq_true rfl, Nat.le_of_ble_eq_true rfl⟩) ⟨kw_blind (Zk_ok g), kw_pre (Zk_ok g) hK hZ hA hst⟩ rfl rfl hl.1 rfl (lv_room (Nat.le_of_ble_eq_true rfl)) d_Sd_letter_1 ⟨Nat.le_of_ble_eq_true rfl, Nat.le_of_ble_eq_true rfl⟩) hst hA (fun r1 σ1 H locs h hst => ?_)
  refine lv_if_ne (tgt := 15) hx hb d_Sd_letter_4 (by decide) (fun hc => ?_) (fun hc => ?_)
  · replace h := h.1 hc
    exact h.elim
  · replace h := h.2 hc
    exact kt_throw (E := E_ia) (ia := 112) (ic := 114) hx hb hown hlocks htr (by decide) hts (Zk_ok g) hZ hst (at_ia g A) gw478 gw479 gw20 hout (hl.1.trans hml.symm) (Nat.le_of_ble_eq_true rfl) (Nat.le_of_ble_eq_true rfl) (Nat.le_of_ble_eq_true rfl) (Nat.le_of_ble_eq_true rfl) h d_Sd_letter_7 d_Sd_letter_10 d_Sd_letter_11 d_Sd_letter_14
set_option maxRecDepth 100000 in
set_option maxHeartbeats 4000000 in
theorem c_Sd_letter_ia (l : Launch) {D : va_G} {g : Gm} (htr : l.stackTraces = false) {sz : Nat} (x1 : Int32) (x2 : Int32) {σ : Sg} {post : Sg → Prop} (h : wq_Sd_letter_ia x1 x2 σ post) : MetT l y_Sd_letter (.code y_Sd_letter k_Sd_letter 4 (some .char) :: GW) { frames := 6, cells := 1, slots := 6, locals := 100 } (PcW D vwCl (WS g) g (Zk g) σ sz [.ref (g.1 51), .int x1, .int x2]) E_ia (fun t => ∃ σ1, post σ1 ∧ Bw D vwCl (WS g) (va_A (WS g σ) sz) σ1 t) (va_A (WS g σ) sz) 1 6 := by
  refine kt_entry (own := R_Sd) (by decide) rfl rfl (Nat.le_of_ble_eq_true rfl) ?_
  intro p e s m below meth c ls hsz C hout hl hst
  exact b_Sd_letter_ia_0 C htr hout x1 x2 σ _ _ ls hl hst h
def wq_Sd_letter_io (x1 : Int32) (x2 : Int32) (σ : Sg) (post : Sg → Prop) : Prop := (wq_Sd_isText x1 σ (fun r1 σ1 => ((¬ r1 = 0 → (wq_Sd_textOf x1 σ1 (fun r2 σ2 => (r2 = 0 ∨ r2 = 13) ∧ ((x2 < 0 → post σ2) ∧ (¬ x2 < 0 → ((x2 < (σ2.1 (r2 + 10) 1) → False) ∧ (¬ x2 < (σ2.1 (r2 + 10) 1) → post σ2))))))) ∧ (r1 = 0 → False))))
set_option maxRecDepth 100000 in
set_option maxHeartbeats 4000000 in
theorem b_Sd_letter_io_0 {p : Program} {l : Launch} {e : Env} {s : State} {m : MethodId} {args : Array Value} {below : List Frame} {meth : Method} {c : Code} {D : va_G} {g : Gm} {A : Nat → Prop} {post : Sg → Prop} (C : kC p s m args meth c k_Sd_letter 4 (some .char) GW R_Sd D vwCl g (Zk g) A) (htr : l.stackTraces = false) (hout : c.exceptionTable.isEmpty = true) (x1 : Int32) (x2 : Int32) (σ : Sg) (H : Heap) (locs : List Loc) (ls : Array Slot) (hl : lv_has ls 4 [(0, .ref (g.1 51)), (1, .int x1), (2, .int x2)]) (hst : Wst D vwCl (WS g) A s σ H locs) (h : wq_Sd_letter_io x1 x2 σ post) : W p l e { frames := 6, cells := 1, slots := 6, locals := 100 } s m args below meth c H locs 0 0 (MQT below E_io (fun t => ∃ σ1, post σ1 ∧ Bw D vwCl (WS g) A σ1 t) A s 1 6) (F0 m 0 ls []) := by
  obtain ⟨hx, hb, hr, hml, hown, hts, hlocks, hK, hZ, hA⟩ := C
  unfold wq_Sd_letter_io at h
  refine lv_iload_n hx hb d_Sd_letter_0 rfl (lv_at hl 1 rfl) ?_
  refine kw_calli (va_runS (As := [.int x1]) (rest := []) ⟨hx, hb, hml, hown, hts⟩ (c_Sd_isText l x1 h) (cwS 1 hts (gd_s gw431 gw432 gw1 gw433) rfl rfl rfl (by decide +kernel) ⟨Nat.le_of_ble_eq_true rfl, Nat.le_of_ble_eq_true rfl⟩) ⟨kw_blind (Zk_ok g), kw_pre (Zk_ok g) hK hZ hA hst⟩ rfl rfl hl.1 rfl (lv_room (Nat.le_of_ble_eq_true rfl)) d_Sd_letter_1 ⟨Nat.le_of_ble_eq_true rfl, Nat.le_of_ble_eq_true rfl⟩) hst hA (fun r1 σ1 H locs h hst => ?_)
  refine lv_if_ne (tgt := 15) hx hb d_Sd_letter_4 (by decide) (fun hc => ?_) (fun hc => ?_)
  · replace h := h.1 hc
    refine lv_aload_n hx hb d_Sd_letter_15 rfl (lv_at hl 0 rfl) ?_
    refine lv_iload_n hx hb d_Sd_letter_16 rfl (lv_at hl 1 rfl) ?_
    refine kw_callr (va_runV (As := [.int x1]) (rest := []) (b := g.1 51) ⟨hx, hb, hml, hown, hts⟩ (c_Sd_textOf l x1 h) (cwV 1 hts (gd_v gw437 gw439 gs0 gw1 gw440) rfl rfl rfl (by decide +kernel) ⟨Nat.le_of_ble_eq_true rfl, Nat.le_of_ble_eq_true rfl⟩) ⟨kw_blind (Zk_ok g), va_recv hK hst.1 rfl (WS_o51 g σ1), kw_pre (Zk_ok g) hK hZ hA hst⟩ rfl rfl hl.1 rfl (lv_room (Nat.le_of_ble_eq_true rfl)) d_Sd_letter_17 ⟨Nat.le_of_ble_eq_true rfl, Nat.le_of_ble_eq_true rfl⟩) hst hA (fun r2 σ2 H locs h hst => ?_)
    obtain ⟨hb1, h⟩ := h
    rcases hb1 with rfl | rfl
    · refine lv_astore_n hx hb d_Sd_letter_20 rfl hl (by decide) rfl (fun ls hl => ?_)
      have hl : lv_has ls 4 [(3, .ref (g.1 10)), (0, .ref (g.1 51)), (1, .int x1), (2, .int x2)] := hl
      refine lv_iload_n hx hb d_Sd_letter_21 rfl (lv_at hl 3 rfl) ?_
      refine lv_if_lt (tgt := 33) hx hb d_Sd_letter_22 (by decide) (fun hc => ?_) (fun hc => ?_)
      · replace h := h.1 hc
        exact kt_throw (E := E_io) (ia := 115) (ic := 117) hx hb hown hlocks htr (by decide) hts (Zk_ok g) hZ hst (at_io g A) gw543 gw544 gw21 hout (hl.1.trans hml.symm) (Nat.le_of_ble_eq_true rfl) (Nat.le_of_ble_eq_true rfl) (Nat.le_of_ble_eq_true rfl) (Nat.le_of_ble_eq_true rfl) h d_Sd_letter_33 d_Sd_letter_36 d_Sd_letter_37 d_Sd_letter_40
      · replace h := h.2 hc
        refine lv_iload_n hx hb d_Sd_letter_25 rfl (lv_at hl 3 rfl) ?_
        refine lv_aload_n hx hb d_Sd_letter_26 rfl (lv_at hl 0 rfl) ?_
        refine va_get (D := D) (ci := 1) (C := R_Tx) (T := T_Tx) (N := 2) hx hb hts in_Tx hown hK hst.1 10 (WS_o10 g σ2) rfl 1 (by decide) (hts _ gw113) (fun _ h9 => h9) rfl d_Sd_letter_27 ?_
        refine lv_icmp_lt (tgt := 41) hx hb d_Sd_letter_30 (by decide) (fun hc => ?_) (fun hc => ?_)
        · replace h := h.1 hc
          exact h.elim
        · replace h := h.2 hc
          exact kt_throw (E := E_io) (ia := 115) (ic := 117) hx hb hown hlocks htr (by decide) hts (Zk_ok g) hZ hst (at_io g A) gw543 gw544 gw21 hout (hl.1.trans hml.symm) (Nat.le_of_ble_eq_true rfl) (Nat.le_of_ble_eq_true rfl) (Nat.le_of_ble_eq_true rfl) (Nat.le_of_ble_eq_true rfl) h d_Sd_letter_33 d_Sd_letter_36 d_Sd_letter_37 d_Sd_letter_40
    · refine lv_astore_n hx hb d_Sd_letter_20 rfl hl (by decide) rfl (fun ls hl => ?_)
      have hl : lv_has ls 4 [(3, .ref (g.1 23)), (0, .ref (g.1 51)), (1, .int x1), (2, .int x2)] := hl
      refine lv_iload_n hx hb d_Sd_letter_21 rfl (lv_at hl 3 rfl) ?_
      refine lv_if_lt (tgt := 33) hx hb d_Sd_letter_22 (by decide) (fun hc => ?_) (fun hc => ?_)
      · replace h := h.1 hc
        exact kt_throw (E := E_io) (ia := 115) (ic := 117) hx hb hown hlocks htr (by decide) hts (Zk_ok g) hZ hst (at_io g A) gw543 gw544 gw21 hout (hl.1.trans hml.symm) (Nat.le_of_ble_eq_true rfl) (Nat.le_of_ble_eq_true rfl) (Nat.le_of_ble_eq_true rfl) (Nat.le_of_ble_eq_true rfl) h d_Sd_letter_33 d_Sd_letter_36 d_Sd_letter_37 d_Sd_letter_40
      · replace h := h.2 hc
        refine lv_iload_n hx hb d_Sd_letter_25 rfl (lv_at hl 3 rfl) ?_
        refine lv_aload_n hx hb d_Sd_letter_26 rfl (lv_at hl 0 rfl) ?_
        refine va_get (D := D) (ci := 1) (C := R_Tx) (T := T_Tx) (N := 2) hx hb hts in_Tx hown hK hst.1 23 (WS_o23 g σ2) rfl 1 (by decide) (hts _ gw113) (fun _ h9 => h9) rfl d_Sd_letter_27 ?_
        refine lv_icmp_lt (tgt := 41) hx hb d_Sd_letter_30 (by decide) (fun hc => ?_) (fun hc => ?_)
        · replace h := h.1 hc
          exact h.elim
        · replace h := h.2 hc
          exact kt_throw (E := E_io) (ia := 115) (ic := 117) hx hb hown hlocks htr (by decide) hts (Zk_ok g) hZ hst (at_io g A) gw543 gw544 gw21 hout (hl.1.trans hml.symm) (Nat.le_of_ble_eq_true rfl) (Nat.le_of_ble_eq_true rfl) (Nat.le_of_ble_eq_true rfl) (Nat.le_of_ble_eq_true rfl) h d_Sd_letter_33 d_Sd_letter_36 d_Sd_letter_37 d_Sd_letter_40
  · replace h := h.2 hc
    exact h.elim
set_option maxRecDepth 100000 in
set_option maxHeartbeats 4000000 in
theorem c_Sd_letter_io (l : Launch) {D : va_G} {g : Gm} (htr : l.stackTraces = false) {sz : Nat} (x1 : Int32) (x2 : Int32) {σ : Sg} {post : Sg → Prop} (h : wq_Sd_letter_io x1 x2 σ post) : MetT l y_Sd_letter (.code y_Sd_letter k_Sd_letter 4 (some .char) :: GW) { frames := 6, cells := 1, slots := 6, locals := 100 } (PcW D vwCl (WS g) g (Zk g) σ sz [.ref (g.1 51), .int x1, .int x2]) E_io (fun t => ∃ σ1, post σ1 ∧ Bw D vwCl (WS g) (va_A (WS g σ) sz) σ1 t) (va_A (WS g σ) sz) 1 6 := by
  refine kt_entry (own := R_Sd) (by decide) rfl rfl (Nat.le_of_ble_eq_true rfl) ?_
  intro p e s m below meth c ls hsz C hout hl hst
  exact b_Sd_letter_io_0 C htr hout x1 x2 σ _ _ ls hl hst h
def wq_Sd_nodes_ia (x1 : Int32) (σ : Sg) (post : Sg → Prop) : Prop := (wq_Sd_isText x1 σ (fun r1 σ1 => ((¬ r1 = 0 → False) ∧ (r1 = 0 → post σ1))))
set_option maxRecDepth 100000 in
set_option maxHeartbeats 4000000 in
theorem b_Sd_nodes_ia_0 {p : Program} {l : Launch} {e : Env} {s : State} {m : MethodId} {args : Array Value} {below : List Frame} {meth : Method} {c : Code} {D : va_G} {g : Gm} {A : Nat → Prop} {post : Sg → Prop} (C : kC p s m args meth c k_Sd_nodes 2 (some .int) GW R_Sd D vwCl g (Zk g) A) (htr : l.stackTraces = false) (hout : c.exceptionTable.isEmpty = true) (x1 : Int32) (σ : Sg) (H : Heap) (locs : List Loc) (ls : Array Slot) (hl : lv_has ls 2 [(0, .ref (g.1 51)), (1, .int x1)]) (hst : Wst D vwCl (WS g) A s σ H locs) (h : wq_Sd_nodes_ia x1 σ post) : W p l e { frames := 6, cells := 1, slots := 6, locals := 100 } s m args below meth c H locs 0 0 (MQT below E_ia (fun t => ∃ σ1, post σ1 ∧ Bw D vwCl (WS g) A σ1 t) A s 1 6) (F0 m 0 ls []) := by
  obtain ⟨hx, hb, hr, hml, hown, hts, hlocks, hK, hZ, hA⟩ := C
  unfold wq_Sd_nodes_ia at h
  refine lv_iload_n hx hb d_Sd_nodes_0 rfl (lv_at hl 1 rfl) ?_
  refine kw_calli (va_runS (As := [.int x1]) (rest := []) ⟨hx, hb, hml, hown, hts⟩ (c_Sd_isText l x1 h) (cwS 1 hts (gd_s gw431 gw432 gw1 gw433) rfl rfl rfl (by decide +kernel) ⟨Nat.le_of_ble_eq_true rfl, Nat.le_of_ble_eq_true rfl⟩) ⟨kw_blind (Zk_ok g), kw_pre (Zk_ok g) hK hZ hA hst⟩ rfl rfl hl.1 rfl (lv_room (Nat.le_of_ble_eq_true rfl)) d_Sd_nodes_1 ⟨Nat.le_of_ble_eq_true rfl, Nat.le_of_ble_eq_true rfl⟩) hst hA (fun r1 σ1 H locs h hst => ?_)
  refine lv_if_ne (tgt := 15) hx hb d_Sd_nodes_4 (by decide) (fun hc => ?_) (fun hc => ?_)
  · replace h := h.1 hc
    exact h.elim
  · replace h := h.2 hc
    exact kt_throw (E := E_ia) (ia := 112) (ic := 114) hx hb hown hlocks htr (by decide) hts (Zk_ok g) hZ hst (at_ia g A) gw478 gw479 gw20 hout (hl.1.trans hml.symm) (Nat.le_of_ble_eq_true rfl) (Nat.le_of_ble_eq_true rfl) (Nat.le_of_ble_eq_true rfl) (Nat.le_of_ble_eq_true rfl) h d_Sd_nodes_7 d_Sd_nodes_10 d_Sd_nodes_11 d_Sd_nodes_14
set_option maxRecDepth 100000 in
set_option maxHeartbeats 4000000 in
theorem c_Sd_nodes_ia (l : Launch) {D : va_G} {g : Gm} (htr : l.stackTraces = false) {sz : Nat} (x1 : Int32) {σ : Sg} {post : Sg → Prop} (h : wq_Sd_nodes_ia x1 σ post) : MetT l y_Sd_nodes (.code y_Sd_nodes k_Sd_nodes 2 (some .int) :: GW) { frames := 6, cells := 1, slots := 6, locals := 100 } (PcW D vwCl (WS g) g (Zk g) σ sz [.ref (g.1 51), .int x1]) E_ia (fun t => ∃ σ1, post σ1 ∧ Bw D vwCl (WS g) (va_A (WS g σ) sz) σ1 t) (va_A (WS g σ) sz) 1 6 := by
  refine kt_entry (own := R_Sd) (by decide) rfl rfl (Nat.le_of_ble_eq_true rfl) ?_
  intro p e s m below meth c ls hsz C hout hl hst
  exact b_Sd_nodes_ia_0 C htr hout x1 σ _ _ ls hl hst h
def wq_Sd_node_ia (x1 : Int32) (x2 : Int32) (x3 : Int32) (σ : Sg) (post : Sg → Prop) : Prop := (wq_Sd_isText x1 σ (fun r1 σ1 => ((r1 = 0 → post σ1) ∧ (¬ r1 = 0 → ((x3 < 0 → post σ1) ∧ (¬ x3 < 0 → ((x3 ≤ (6 : Int32) → False) ∧ (¬ x3 ≤ (6 : Int32) → post σ1))))))))
set_option maxRecDepth 100000 in
set_option maxHeartbeats 4000000 in
theorem b_Sd_node_ia_0 {p : Program} {l : Launch} {e : Env} {s : State} {m : MethodId} {args : Array Value} {below : List Frame} {meth : Method} {c : Code} {D : va_G} {g : Gm} {A : Nat → Prop} {post : Sg → Prop} (C : kC p s m args meth c k_Sd_node 5 (some .int) GW R_Sd D vwCl g (Zk g) A) (htr : l.stackTraces = false) (hout : c.exceptionTable.isEmpty = true) (x1 : Int32) (x2 : Int32) (x3 : Int32) (σ : Sg) (H : Heap) (locs : List Loc) (ls : Array Slot) (hl : lv_has ls 5 [(0, .ref (g.1 51)), (1, .int x1), (2, .int x2), (3, .int x3)]) (hst : Wst D vwCl (WS g) A s σ H locs) (h : wq_Sd_node_ia x1 x2 x3 σ post) : W p l e { frames := 6, cells := 1, slots := 6, locals := 100 } s m args below meth c H locs 0 0 (MQT below E_ia (fun t => ∃ σ1, post σ1 ∧ Bw D vwCl (WS g) A σ1 t) A s 1 6) (F0 m 0 ls []) := by
  obtain ⟨hx, hb, hr, hml, hown, hts, hlocks, hK, hZ, hA⟩ := C
  unfold wq_Sd_node_ia at h
  refine lv_iload_n hx hb d_Sd_node_0 rfl (lv_at hl 1 rfl) ?_
  refine kw_calli (va_runS (As := [.int x1]) (rest := []) ⟨hx, hb, hml, hown, hts⟩ (c_Sd_isText l x1 h) (cwS 1 hts (gd_s gw431 gw432 gw1 gw433) rfl rfl rfl (by decide +kernel) ⟨Nat.le_of_ble_eq_true rfl, Nat.le_of_ble_eq_true rfl⟩) ⟨kw_blind (Zk_ok g), kw_pre (Zk_ok g) hK hZ hA hst⟩ rfl rfl hl.1 rfl (lv_room (Nat.le_of_ble_eq_true rfl)) d_Sd_node_1 ⟨Nat.le_of_ble_eq_true rfl, Nat.le_of_ble_eq_true rfl⟩) hst hA (fun r1 σ1 H locs h hst => ?_)
  refine lv_if_eq (tgt := 17) hx hb d_Sd_node_4 (by decide) (fun hc => ?_) (fun hc => ?_)
  · replace h := h.1 hc
    exact kt_throw (E := E_ia) (ia := 112) (ic := 114) hx hb hown hlocks htr (by decide) hts (Zk_ok g) hZ hst (at_ia g A) gw478 gw479 gw20 hout (hl.1.trans hml.symm) (Nat.le_of_ble_eq_true rfl) (Nat.le_of_ble_eq_true rfl) (Nat.le_of_ble_eq_true rfl) (Nat.le_of_ble_eq_true rfl) h d_Sd_node_17 d_Sd_node_20 d_Sd_node_21 d_Sd_node_24
  · replace h := h.2 hc
    refine lv_iload_n hx hb d_Sd_node_7 rfl (lv_at hl 3 rfl) ?_
    refine lv_if_lt (tgt := 17) hx hb d_Sd_node_8 (by decide) (fun hc => ?_) (fun hc => ?_)
    · replace h := h.1 hc
      exact kt_throw (E := E_ia) (ia := 112) (ic := 114) hx hb hown hlocks htr (by decide) hts (Zk_ok g) hZ hst (at_ia g A) gw478 gw479 gw20 hout (hl.1.trans hml.symm) (Nat.le_of_ble_eq_true rfl) (Nat.le_of_ble_eq_true rfl) (Nat.le_of_ble_eq_true rfl) (Nat.le_of_ble_eq_true rfl) h d_Sd_node_17 d_Sd_node_20 d_Sd_node_21 d_Sd_node_24
    · replace h := h.2 hc
      refine lv_iload_n hx hb d_Sd_node_11 rfl (lv_at hl 3 rfl) ?_
      refine lv_bipush (v := (6 : Int32)) hx hb d_Sd_node_12 (by decide) ?_
      refine lv_icmp_le (tgt := 25) hx hb d_Sd_node_14 (by decide) (fun hc => ?_) (fun hc => ?_)
      · replace h := h.1 hc
        exact h.elim
      · replace h := h.2 hc
        exact kt_throw (E := E_ia) (ia := 112) (ic := 114) hx hb hown hlocks htr (by decide) hts (Zk_ok g) hZ hst (at_ia g A) gw478 gw479 gw20 hout (hl.1.trans hml.symm) (Nat.le_of_ble_eq_true rfl) (Nat.le_of_ble_eq_true rfl) (Nat.le_of_ble_eq_true rfl) (Nat.le_of_ble_eq_true rfl) h d_Sd_node_17 d_Sd_node_20 d_Sd_node_21 d_Sd_node_24
set_option maxRecDepth 100000 in
set_option maxHeartbeats 4000000 in
theorem c_Sd_node_ia (l : Launch) {D : va_G} {g : Gm} (htr : l.stackTraces = false) {sz : Nat} (x1 : Int32) (x2 : Int32) (x3 : Int32) {σ : Sg} {post : Sg → Prop} (h : wq_Sd_node_ia x1 x2 x3 σ post) : MetT l y_Sd_node (.code y_Sd_node k_Sd_node 5 (some .int) :: GW) { frames := 6, cells := 1, slots := 6, locals := 100 } (PcW D vwCl (WS g) g (Zk g) σ sz [.ref (g.1 51), .int x1, .int x2, .int x3]) E_ia (fun t => ∃ σ1, post σ1 ∧ Bw D vwCl (WS g) (va_A (WS g σ) sz) σ1 t) (va_A (WS g σ) sz) 1 6 := by
  refine kt_entry (own := R_Sd) (by decide) rfl rfl (Nat.le_of_ble_eq_true rfl) ?_
  intro p e s m below meth c ls hsz C hout hl hst
  exact b_Sd_node_ia_0 C htr hout x1 x2 x3 σ _ _ ls hl hst h
theorem gw705 : (Jvm.Cond.classLink "SchemaDesk" (137 : Nat) "java/util/NoSuchElementException") ∈ GW := gw_t3 (List.mem_of_getElem? (i := 225) rfl) rfl
theorem gw23 : (Jvm.Cond.initialized "java/util/NoSuchElementException") ∈ GW := gw_t1 (List.mem_of_getElem? (i := 23) rfl) rfl
def wq_Sd_node_ns (x1 : Int32) (x2 : Int32) (x3 : Int32) (σ : Sg) (post : Sg → Prop) : Prop := (wq_Sd_isText x1 σ (fun r1 σ1 => ((r1 = 0 → False) ∧ (¬ r1 = 0 → ((x3 < 0 → False) ∧ (¬ x3 < 0 → ((x3 ≤ (6 : Int32) → (wq_Sd_readTree x1 σ1 (fun r2 σ2 => (r2 = 0 ∨ r2 = 13) ∧ (wq_Tr_has r2 x2 σ2 (fun r3 σ3 => ((¬ r3 = 0 → False) ∧ (r3 = 0 → post σ3))))))) ∧ (¬ x3 ≤ (6 : Int32) → False))))))))
set_option maxRecDepth 100000 in
set_option maxHeartbeats 4000000 in
theorem b_Sd_node_ns_0 {p : Program} {l : Launch} {e : Env} {s : State} {m : MethodId} {args : Array Value} {below : List Frame} {meth : Method} {c : Code} {D : va_G} {g : Gm} {A : Nat → Prop} {post : Sg → Prop} (C : kC p s m args meth c k_Sd_node 5 (some .int) GW R_Sd D vwCl g (Zk g) A) (htr : l.stackTraces = false) (hout : c.exceptionTable.isEmpty = true) (x1 : Int32) (x2 : Int32) (x3 : Int32) (σ : Sg) (H : Heap) (locs : List Loc) (ls : Array Slot) (hl : lv_has ls 5 [(0, .ref (g.1 51)), (1, .int x1), (2, .int x2), (3, .int x3)]) (hst : Wst D vwCl (WS g) A s σ H locs) (h : wq_Sd_node_ns x1 x2 x3 σ post) : W p l e { frames := 37, cells := 1, slots := 6, locals := 928 } s m args below meth c H locs 0 0 (MQT below E_ns (fun t => ∃ σ1, post σ1 ∧ Bw D vwCl (WS g) A σ1 t) A s 1 6) (F0 m 0 ls []) := by
  obtain ⟨hx, hb, hr, hml, hown, hts, hlocks, hK, hZ, hA⟩ := C
  unfold wq_Sd_node_ns at h
  refine lv_iload_n hx hb d_Sd_node_0 rfl (lv_at hl 1 rfl) ?_
  refine kw_calli (va_runS (As := [.int x1]) (rest := []) ⟨hx, hb, hml, hown, hts⟩ (c_Sd_isText l x1 h) (cwS 1 hts (gd_s gw431 gw432 gw1 gw433) rfl rfl rfl (by decide +kernel) ⟨Nat.le_of_ble_eq_true rfl, Nat.le_of_ble_eq_true rfl⟩) ⟨kw_blind (Zk_ok g), kw_pre (Zk_ok g) hK hZ hA hst⟩ rfl rfl hl.1 rfl (lv_room (Nat.le_of_ble_eq_true rfl)) d_Sd_node_1 ⟨Nat.le_of_ble_eq_true rfl, Nat.le_of_ble_eq_true rfl⟩) hst hA (fun r1 σ1 H locs h hst => ?_)
  refine lv_if_eq (tgt := 17) hx hb d_Sd_node_4 (by decide) (fun hc => ?_) (fun hc => ?_)
  · replace h := h.1 hc
    exact h.elim
  · replace h := h.2 hc
    refine lv_iload_n hx hb d_Sd_node_7 rfl (lv_at hl 3 rfl) ?_
    refine lv_if_lt (tgt := 17) hx hb d_Sd_node_8 (by decide) (fun hc => ?_) (fun hc => ?_)
    · replace h := h.1 hc
      exact h.elim
    · replace h := h.2 hc
      refine lv_iload_n hx hb d_Sd_node_11 rfl (lv_at hl 3 rfl) ?_
      refine lv_bipush (v := (6 : Int32)) hx hb d_Sd_node_12 (by decide) ?_
      refine lv_icmp_le (tgt := 25) hx hb d_Sd_node_14 (by decide) (fun hc => ?_) (fun hc => ?_)
      · replace h := h.1 hc
        refine lv_aload_n hx hb d_Sd_node_25 rfl (lv_at hl 0 rfl) ?_
        refine lv_iload_n hx hb d_Sd_node_26 rfl (lv_at hl 1 rfl) ?_
        refine kw_callr (va_runV (As := [.int x1]) (rest := []) (b := g.1 51) ⟨hx, hb, hml, hown, hts⟩ (c_Sd_readTree l x1 h) (cwV 1 hts (gd_v gw605 gw607 gs3 gw1 gw608) rfl rfl rfl (by decide +kernel) ⟨Nat.le_of_ble_eq_true rfl, Nat.le_of_ble_eq_true rfl⟩) ⟨kw_blind (Zk_ok g), va_recv hK hst.1 rfl (WS_o51 g σ1), kw_pre (Zk_ok g) hK hZ hA hst⟩ rfl rfl hl.1 rfl (lv_room (Nat.le_of_ble_eq_true rfl)) d_Sd_node_27 ⟨Nat.le_of_ble_eq_true rfl, Nat.le_of_ble_eq_true rfl⟩) hst hA (fun r2 σ2 H locs h hst => ?_)
        obtain ⟨hb1, h⟩ := h
        rcases hb1 with rfl | rfl
        · refine lv_astore hx hb d_Sd_node_30 hl (by decide) rfl (fun ls hl => ?_)
          have hl : lv_has ls 5 [(4, .ref (g.1 0)), (0, .ref (g.1 51)), (1, .int x1), (2, .int x2), (3, .int x3)] := hl
          refine lv_aload hx hb d_Sd_node_32 (lv_at hl 0 rfl) ?_
          refine lv_iload_n hx hb d_Sd_node_34 rfl (lv_at hl 3 rfl) ?_
          refine kw_calli (va_runV (As := [.int x2]) (rest := []) (b := g.1 0) ⟨hx, hb, hml, hown, hts⟩ (c_Tr_has_0 l x2 h) (cwV 1 hts (gd_v gw701 gw702 gw703 gw7 gw704) rfl rfl rfl (by decide +kernel) ⟨Nat.le_of_ble_eq_true rfl, Nat.le_of_ble_eq_true rfl⟩) ⟨kw_blind (Zk_ok g), va_recv hK hst.1 rfl (WS_o0 g σ2), kw_pre (Zk_ok g) hK hZ hA hst⟩ rfl rfl hl.1 rfl (lv_room (Nat.le_of_ble_eq_true rfl)) d_Sd_node_35 ⟨Nat.le_of_ble_eq_true rfl, Nat.le_of_ble_eq_true rfl⟩) hst hA (fun r3 σ3 H locs h hst => ?_)
          refine lv_if_ne (tgt := 49) hx hb d_Sd_node_38 (by decide) (fun hc => ?_) (fun hc => ?_)
          · replace h := h.1 hc
            exact h.elim
          · replace h := h.2 hc
            exact kt_throw (E := E_ns) (ia := 137) (ic := 139) hx hb hown hlocks htr (by decide) hts (Zk_ok g) hZ hst (at_ns g A) gw705 gw706 gw23 hout (hl.1.trans hml.symm) (Nat.le_of_ble_eq_true rfl) (Nat.le_of_ble_eq_true rfl) (Nat.le_of_ble_eq_true rfl) (Nat.le_of_ble_eq_true rfl) h d_Sd_node_41 d_Sd_node_44 d_Sd_node_45 d_Sd_node_48
        · refine lv_astore hx hb d_Sd_node_30 hl (by decide) rfl (fun ls hl => ?_)
          have hl : lv_has ls 5 [(4, .ref (g.1 13)), (0, .ref (g.1 51)), (1, .int x1), (2, .int x2), (3, .int x3)] := hl
          refine lv_aload hx hb d_Sd_node_32 (lv_at hl 0 rfl) ?_
          refine lv_iload_n hx hb d_Sd_node_34 rfl (lv_at hl 3 rfl) ?_
          refine kw_calli (va_runV (As := [.int x2]) (rest := []) (b := g.1 13) ⟨hx, hb, hml, hown, hts⟩ (c_Tr_has_13 l x2 h) (cwV 1 hts (gd_v gw701 gw702 gw703 gw7 gw704) rfl rfl rfl (by decide +kernel) ⟨Nat.le_of_ble_eq_true rfl, Nat.le_of_ble_eq_true rfl⟩) ⟨kw_blind (Zk_ok g), va_recv hK hst.1 rfl (WS_o13 g σ2), kw_pre (Zk_ok g) hK hZ hA hst⟩ rfl rfl hl.1 rfl (lv_room (Nat.le_of_ble_eq_true rfl)) d_Sd_node_35 ⟨Nat.le_of_ble_eq_true rfl, Nat.le_of_ble_eq_true rfl⟩) hst hA (fun r3 σ3 H locs h hst => ?_)
          refine lv_if_ne (tgt := 49) hx hb d_Sd_node_38 (by decide) (fun hc => ?_) (fun hc => ?_)
          · replace h := h.1 hc
            exact h.elim
          · replace h := h.2 hc
            exact kt_throw (E := E_ns) (ia := 137) (ic := 139) hx hb hown hlocks htr (by decide) hts (Zk_ok g) hZ hst (at_ns g A) gw705 gw706 gw23 hout (hl.1.trans hml.symm) (Nat.le_of_ble_eq_true rfl) (Nat.le_of_ble_eq_true rfl) (Nat.le_of_ble_eq_true rfl) (Nat.le_of_ble_eq_true rfl) h d_Sd_node_41 d_Sd_node_44 d_Sd_node_45 d_Sd_node_48
      · replace h := h.2 hc
        exact h.elim
set_option maxRecDepth 100000 in
set_option maxHeartbeats 4000000 in
theorem c_Sd_node_ns (l : Launch) {D : va_G} {g : Gm} (htr : l.stackTraces = false) {sz : Nat} (x1 : Int32) (x2 : Int32) (x3 : Int32) {σ : Sg} {post : Sg → Prop} (h : wq_Sd_node_ns x1 x2 x3 σ post) : MetT l y_Sd_node (.code y_Sd_node k_Sd_node 5 (some .int) :: GW) { frames := 37, cells := 1, slots := 6, locals := 928 } (PcW D vwCl (WS g) g (Zk g) σ sz [.ref (g.1 51), .int x1, .int x2, .int x3]) E_ns (fun t => ∃ σ1, post σ1 ∧ Bw D vwCl (WS g) (va_A (WS g σ) sz) σ1 t) (va_A (WS g σ) sz) 1 6 := by
  refine kt_entry (own := R_Sd) (by decide) rfl rfl (Nat.le_of_ble_eq_true rfl) ?_
  intro p e s m below meth c ls hsz C hout hl hst
  exact b_Sd_node_ns_0 C htr hout x1 x2 x3 σ _ _ ls hl hst h
def wq_Sd_faults_ia (x1 : Int32) (σ : Sg) (post : Sg → Prop) : Prop := (wq_Sd_isText x1 σ (fun r1 σ1 => ((¬ r1 = 0 → False) ∧ (r1 = 0 → post σ1))))
set_option maxRecDepth 100000 in
set_option maxHeartbeats 4000000 in
theorem b_Sd_faults_ia_0 {p : Program} {l : Launch} {e : Env} {s : State} {m : MethodId} {args : Array Value} {below : List Frame} {meth : Method} {c : Code} {D : va_G} {g : Gm} {A : Nat → Prop} {post : Sg → Prop} (C : kC p s m args meth c k_Sd_faults 2 (some .int) GW R_Sd D vwCl g (Zk g) A) (htr : l.stackTraces = false) (hout : c.exceptionTable.isEmpty = true) (x1 : Int32) (σ : Sg) (H : Heap) (locs : List Loc) (ls : Array Slot) (hl : lv_has ls 2 [(0, .ref (g.1 51)), (1, .int x1)]) (hst : Wst D vwCl (WS g) A s σ H locs) (h : wq_Sd_faults_ia x1 σ post) : W p l e { frames := 6, cells := 1, slots := 6, locals := 100 } s m args below meth c H locs 0 0 (MQT below E_ia (fun t => ∃ σ1, post σ1 ∧ Bw D vwCl (WS g) A σ1 t) A s 1 6) (F0 m 0 ls []) := by
  obtain ⟨hx, hb, hr, hml, hown, hts, hlocks, hK, hZ, hA⟩ := C
  unfold wq_Sd_faults_ia at h
  refine lv_iload_n hx hb d_Sd_faults_0 rfl (lv_at hl 1 rfl) ?_
  refine kw_calli (va_runS (As := [.int x1]) (rest := []) ⟨hx, hb, hml, hown, hts⟩ (c_Sd_isText l x1 h) (cwS 1 hts (gd_s gw431 gw432 gw1 gw433) rfl rfl rfl (by decide +kernel) ⟨Nat.le_of_ble_eq_true rfl, Nat.le_of_ble_eq_true rfl⟩) ⟨kw_blind (Zk_ok g), kw_pre (Zk_ok g) hK hZ hA hst⟩ rfl rfl hl.1 rfl (lv_room (Nat.le_of_ble_eq_true rfl)) d_Sd_faults_1 ⟨Nat.le_of_ble_eq_true rfl, Nat.le_of_ble_eq_true rfl⟩) hst hA (fun r1 σ1 H locs h hst => ?_)
  refine lv_if_ne (tgt := 15) hx hb d_Sd_faults_4 (by decide) (fun hc => ?_) (fun hc => ?_)
  · replace h := h.1 hc
    exact h.elim
  · replace h := h.2 hc
    exact kt_throw (E := E_ia) (ia := 112) (ic := 114) hx hb hown hlocks htr (by decide) hts (Zk_ok g) hZ hst (at_ia g A) gw478 gw479 gw20 hout (hl.1.trans hml.symm) (Nat.le_of_ble_eq_true rfl) (Nat.le_of_ble_eq_true rfl) (Nat.le_of_ble_eq_true rfl) (Nat.le_of_ble_eq_true rfl) h d_Sd_faults_7 d_Sd_faults_10 d_Sd_faults_11 d_Sd_faults_14
set_option maxRecDepth 100000 in
set_option maxHeartbeats 4000000 in
theorem c_Sd_faults_ia (l : Launch) {D : va_G} {g : Gm} (htr : l.stackTraces = false) {sz : Nat} (x1 : Int32) {σ : Sg} {post : Sg → Prop} (h : wq_Sd_faults_ia x1 σ post) : MetT l y_Sd_faults (.code y_Sd_faults k_Sd_faults 2 (some .int) :: GW) { frames := 6, cells := 1, slots := 6, locals := 100 } (PcW D vwCl (WS g) g (Zk g) σ sz [.ref (g.1 51), .int x1]) E_ia (fun t => ∃ σ1, post σ1 ∧ Bw D vwCl (WS g) (va_A (WS g σ) sz) σ1 t) (va_A (WS g σ) sz) 1 6 := by
  refine kt_entry (own := R_Sd) (by decide) rfl rfl (Nat.le_of_ble_eq_true rfl) ?_
  intro p e s m below meth c ls hsz C hout hl hst
  exact b_Sd_faults_ia_0 C htr hout x1 σ _ _ ls hl hst h
def wq_Sd_fault_ia (x1 : Int32) (x2 : Int32) (σ : Sg) (post : Sg → Prop) : Prop := (wq_Sd_isText x1 σ (fun r1 σ1 => ((¬ r1 = 0 → False) ∧ (r1 = 0 → post σ1))))
set_option maxRecDepth 100000 in
set_option maxHeartbeats 4000000 in
theorem b_Sd_fault_ia_0 {p : Program} {l : Launch} {e : Env} {s : State} {m : MethodId} {args : Array Value} {below : List Frame} {meth : Method} {c : Code} {D : va_G} {g : Gm} {A : Nat → Prop} {post : Sg → Prop} (C : kC p s m args meth c k_Sd_fault 4 (some .int) GW R_Sd D vwCl g (Zk g) A) (htr : l.stackTraces = false) (hout : c.exceptionTable.isEmpty = true) (x1 : Int32) (x2 : Int32) (σ : Sg) (H : Heap) (locs : List Loc) (ls : Array Slot) (hl : lv_has ls 4 [(0, .ref (g.1 51)), (1, .int x1), (2, .int x2)]) (hst : Wst D vwCl (WS g) A s σ H locs) (h : wq_Sd_fault_ia x1 x2 σ post) : W p l e { frames := 6, cells := 1, slots := 6, locals := 100 } s m args below meth c H locs 0 0 (MQT below E_ia (fun t => ∃ σ1, post σ1 ∧ Bw D vwCl (WS g) A σ1 t) A s 1 6) (F0 m 0 ls []) := by
  obtain ⟨hx, hb, hr, hml, hown, hts, hlocks, hK, hZ, hA⟩ := C
  unfold wq_Sd_fault_ia at h
  refine lv_iload_n hx hb d_Sd_fault_0 rfl (lv_at hl 1 rfl) ?_
  refine kw_calli (va_runS (As := [.int x1]) (rest := []) ⟨hx, hb, hml, hown, hts⟩ (c_Sd_isText l x1 h) (cwS 1 hts (gd_s gw431 gw432 gw1 gw433) rfl rfl rfl (by decide +kernel) ⟨Nat.le_of_ble_eq_true rfl, Nat.le_of_ble_eq_true rfl⟩) ⟨kw_blind (Zk_ok g), kw_pre (Zk_ok g) hK hZ hA hst⟩ rfl rfl hl.1 rfl (lv_room (Nat.le_of_ble_eq_true rfl)) d_Sd_fault_1 ⟨Nat.le_of_ble_eq_true rfl, Nat.le_of_ble_eq_true rfl⟩) hst hA (fun r1 σ1 H locs h hst => ?_)
  refine lv_if_ne (tgt := 15) hx hb d_Sd_fault_4 (by decide) (fun hc => ?_) (fun hc => ?_)
  · replace h := h.1 hc
    exact h.elim
  · replace h := h.2 hc
    exact kt_throw (E := E_ia) (ia := 112) (ic := 114) hx hb hown hlocks htr (by decide) hts (Zk_ok g) hZ hst (at_ia g A) gw478 gw479 gw20 hout (hl.1.trans hml.symm) (Nat.le_of_ble_eq_true rfl) (Nat.le_of_ble_eq_true rfl) (Nat.le_of_ble_eq_true rfl) (Nat.le_of_ble_eq_true rfl) h d_Sd_fault_7 d_Sd_fault_10 d_Sd_fault_11 d_Sd_fault_14
set_option maxRecDepth 100000 in
set_option maxHeartbeats 4000000 in
theorem c_Sd_fault_ia (l : Launch) {D : va_G} {g : Gm} (htr : l.stackTraces = false) {sz : Nat} (x1 : Int32) (x2 : Int32) {σ : Sg} {post : Sg → Prop} (h : wq_Sd_fault_ia x1 x2 σ post) : MetT l y_Sd_fault (.code y_Sd_fault k_Sd_fault 4 (some .int) :: GW) { frames := 6, cells := 1, slots := 6, locals := 100 } (PcW D vwCl (WS g) g (Zk g) σ sz [.ref (g.1 51), .int x1, .int x2]) E_ia (fun t => ∃ σ1, post σ1 ∧ Bw D vwCl (WS g) (va_A (WS g σ) sz) σ1 t) (va_A (WS g σ) sz) 1 6 := by
  refine kt_entry (own := R_Sd) (by decide) rfl rfl (Nat.le_of_ble_eq_true rfl) ?_
  intro p e s m below meth c ls hsz C hout hl hst
  exact b_Sd_fault_ia_0 C htr hout x1 x2 σ _ _ ls hl hst h
def wq_Sd_fault_ns (x1 : Int32) (x2 : Int32) (σ : Sg) (post : Sg → Prop) : Prop := (wq_Sd_isText x1 σ (fun r1 σ1 => ((¬ r1 = 0 → (wq_Sd_readTree x1 σ1 (fun r2 σ2 => (r2 = 0 ∨ r2 = 13) ∧ ((x2 < 0 → post σ2) ∧ (¬ x2 < 0 → ((x2 < (σ2.1 r2 11) → False) ∧ (¬ x2 < (σ2.1 r2 11) → post σ2))))))) ∧ (r1 = 0 → False))))
set_option maxRecDepth 100000 in
set_option maxHeartbeats 4000000 in
theorem b_Sd_fault_ns_0 {p : Program} {l : Launch} {e : Env} {s : State} {m : MethodId} {args : Array Value} {below : List Frame} {meth : Method} {c : Code} {D : va_G} {g : Gm} {A : Nat → Prop} {post : Sg → Prop} (C : kC p s m args meth c k_Sd_fault 4 (some .int) GW R_Sd D vwCl g (Zk g) A) (htr : l.stackTraces = false) (hout : c.exceptionTable.isEmpty = true) (x1 : Int32) (x2 : Int32) (σ : Sg) (H : Heap) (locs : List Loc) (ls : Array Slot) (hl : lv_has ls 4 [(0, .ref (g.1 51)), (1, .int x1), (2, .int x2)]) (hst : Wst D vwCl (WS g) A s σ H locs) (h : wq_Sd_fault_ns x1 x2 σ post) : W p l e { frames := 37, cells := 1, slots := 6, locals := 928 } s m args below meth c H locs 0 0 (MQT below E_ns (fun t => ∃ σ1, post σ1 ∧ Bw D vwCl (WS g) A σ1 t) A s 1 6) (F0 m 0 ls []) := by
  obtain ⟨hx, hb, hr, hml, hown, hts, hlocks, hK, hZ, hA⟩ := C
  unfold wq_Sd_fault_ns at h
  refine lv_iload_n hx hb d_Sd_fault_0 rfl (lv_at hl 1 rfl) ?_
  refine kw_calli (va_runS (As := [.int x1]) (rest := []) ⟨hx, hb, hml, hown, hts⟩ (c_Sd_isText l x1 h) (cwS 1 hts (gd_s gw431 gw432 gw1 gw433) rfl rfl rfl (by decide +kernel) ⟨Nat.le_of_ble_eq_true rfl, Nat.le_of_ble_eq_true rfl⟩) ⟨kw_blind (Zk_ok g), kw_pre (Zk_ok g) hK hZ hA hst⟩ rfl rfl hl.1 rfl (lv_room (Nat.le_of_ble_eq_true rfl)) d_Sd_fault_1 ⟨Nat.le_of_ble_eq_true rfl, Nat.le_of_ble_eq_true rfl⟩) hst hA (fun r1 σ1 H locs h hst => ?_)
  refine lv_if_ne (tgt := 15) hx hb d_Sd_fault_4 (by decide) (fun hc => ?_) (fun hc => ?_)
  · replace h := h.1 hc
    refine lv_aload_n hx hb d_Sd_fault_15 rfl (lv_at hl 0 rfl) ?_
    refine lv_iload_n hx hb d_Sd_fault_16 rfl (lv_at hl 1 rfl) ?_
    refine kw_callr (va_runV (As := [.int x1]) (rest := []) (b := g.1 51) ⟨hx, hb, hml, hown, hts⟩ (c_Sd_readTree l x1 h) (cwV 1 hts (gd_v gw605 gw607 gs3 gw1 gw608) rfl rfl rfl (by decide +kernel) ⟨Nat.le_of_ble_eq_true rfl, Nat.le_of_ble_eq_true rfl⟩) ⟨kw_blind (Zk_ok g), va_recv hK hst.1 rfl (WS_o51 g σ1), kw_pre (Zk_ok g) hK hZ hA hst⟩ rfl rfl hl.1 rfl (lv_room (Nat.le_of_ble_eq_true rfl)) d_Sd_fault_17 ⟨Nat.le_of_ble_eq_true rfl, Nat.le_of_ble_eq_true rfl⟩) hst hA (fun r2 σ2 H locs h hst => ?_)
    obtain ⟨hb1, h⟩ := h
    rcases hb1 with rfl | rfl
    · refine lv_astore_n hx hb d_Sd_fault_20 rfl hl (by decide) rfl (fun ls hl => ?_)
      have hl : lv_has ls 4 [(3, .ref (g.1 0)), (0, .ref (g.1 51)), (1, .int x1), (2, .int x2)] := hl
      refine lv_iload_n hx hb d_Sd_fault_21 rfl (lv_at hl 3 rfl) ?_
      refine lv_if_lt (tgt := 33) hx hb d_Sd_fault_22 (by decide) (fun hc => ?_) (fun hc => ?_)
      · replace h := h.1 hc
        exact kt_throw (E := E_ns) (ia := 137) (ic := 139) hx hb hown hlocks htr (by decide) hts (Zk_ok g) hZ hst (at_ns g A) gw705 gw706 gw23 hout (hl.1.trans hml.symm) (Nat.le_of_ble_eq_true rfl) (Nat.le_of_ble_eq_true rfl) (Nat.le_of_ble_eq_true rfl) (Nat.le_of_ble_eq_true rfl) h d_Sd_fault_33 d_Sd_fault_36 d_Sd_fault_37 d_Sd_fault_40
      · replace h := h.2 hc
        refine lv_iload_n hx hb d_Sd_fault_25 rfl (lv_at hl 3 rfl) ?_
        refine lv_aload_n hx hb d_Sd_fault_26 rfl (lv_at hl 0 rfl) ?_
        refine va_get (D := D) (ci := 0) (C := R_Tr) (T := T_Tr) (N := 12) hx hb hts in_Tr hown hK hst.1 0 (WS_o0 g σ2) rfl 11 (by decide) (hts _ gw176) (fun _ h9 => h9) rfl d_Sd_fault_27 ?_
        refine lv_icmp_lt (tgt := 41) hx hb d_Sd_fault_30 (by decide) (fun hc => ?_) (fun hc => ?_)
        · replace h := h.1 hc
          exact h.elim
        · replace h := h.2 hc
          exact kt_throw (E := E_ns) (ia := 137) (ic := 139) hx hb hown hlocks htr (by decide) hts (Zk_ok g) hZ hst (at_ns g A) gw705 gw706 gw23 hout (hl.1.trans hml.symm) (Nat.le_of_ble_eq_true rfl) (Nat.le_of_ble_eq_true rfl) (Nat.le_of_ble_eq_true rfl) (Nat.le_of_ble_eq_true rfl) h d_Sd_fault_33 d_Sd_fault_36 d_Sd_fault_37 d_Sd_fault_40
    · refine lv_astore_n hx hb d_Sd_fault_20 rfl hl (by decide) rfl (fun ls hl => ?_)
      have hl : lv_has ls 4 [(3, .ref (g.1 13)), (0, .ref (g.1 51)), (1, .int x1), (2, .int x2)] := hl
      refine lv_iload_n hx hb d_Sd_fault_21 rfl (lv_at hl 3 rfl) ?_
      refine lv_if_lt (tgt := 33) hx hb d_Sd_fault_22 (by decide) (fun hc => ?_) (fun hc => ?_)
      · replace h := h.1 hc
        exact kt_throw (E := E_ns) (ia := 137) (ic := 139) hx hb hown hlocks htr (by decide) hts (Zk_ok g) hZ hst (at_ns g A) gw705 gw706 gw23 hout (hl.1.trans hml.symm) (Nat.le_of_ble_eq_true rfl) (Nat.le_of_ble_eq_true rfl) (Nat.le_of_ble_eq_true rfl) (Nat.le_of_ble_eq_true rfl) h d_Sd_fault_33 d_Sd_fault_36 d_Sd_fault_37 d_Sd_fault_40
      · replace h := h.2 hc
        refine lv_iload_n hx hb d_Sd_fault_25 rfl (lv_at hl 3 rfl) ?_
        refine lv_aload_n hx hb d_Sd_fault_26 rfl (lv_at hl 0 rfl) ?_
        refine va_get (D := D) (ci := 0) (C := R_Tr) (T := T_Tr) (N := 12) hx hb hts in_Tr hown hK hst.1 13 (WS_o13 g σ2) rfl 11 (by decide) (hts _ gw176) (fun _ h9 => h9) rfl d_Sd_fault_27 ?_
        refine lv_icmp_lt (tgt := 41) hx hb d_Sd_fault_30 (by decide) (fun hc => ?_) (fun hc => ?_)
        · replace h := h.1 hc
          exact h.elim
        · replace h := h.2 hc
          exact kt_throw (E := E_ns) (ia := 137) (ic := 139) hx hb hown hlocks htr (by decide) hts (Zk_ok g) hZ hst (at_ns g A) gw705 gw706 gw23 hout (hl.1.trans hml.symm) (Nat.le_of_ble_eq_true rfl) (Nat.le_of_ble_eq_true rfl) (Nat.le_of_ble_eq_true rfl) (Nat.le_of_ble_eq_true rfl) h d_Sd_fault_33 d_Sd_fault_36 d_Sd_fault_37 d_Sd_fault_40
  · replace h := h.2 hc
    exact h.elim
set_option maxRecDepth 100000 in
set_option maxHeartbeats 4000000 in
theorem c_Sd_fault_ns (l : Launch) {D : va_G} {g : Gm} (htr : l.stackTraces = false) {sz : Nat} (x1 : Int32) (x2 : Int32) {σ : Sg} {post : Sg → Prop} (h : wq_Sd_fault_ns x1 x2 σ post) : MetT l y_Sd_fault (.code y_Sd_fault k_Sd_fault 4 (some .int) :: GW) { frames := 37, cells := 1, slots := 6, locals := 928 } (PcW D vwCl (WS g) g (Zk g) σ sz [.ref (g.1 51), .int x1, .int x2]) E_ns (fun t => ∃ σ1, post σ1 ∧ Bw D vwCl (WS g) (va_A (WS g σ) sz) σ1 t) (va_A (WS g σ) sz) 1 6 := by
  refine kt_entry (own := R_Sd) (by decide) rfl rfl (Nat.le_of_ble_eq_true rfl) ?_
  intro p e s m below meth c ls hsz C hout hl hst
  exact b_Sd_fault_ns_0 C htr hout x1 x2 σ _ _ ls hl hst h
def wq_Sd_holds_ns (x1 : Int32) (x2 : Int32) (σ : Sg) (post : Sg → Prop) : Prop := (wq_Sd_readTree (0 : Int32) σ (fun r1 σ1 => (r1 = 0 ∨ r1 = 13) ∧ (wq_Tr_has r1 x1 σ1 (fun r2 σ2 => ((r2 = 0 → post σ2) ∧ (¬ r2 = 0 → (wq_Sd_readTree (1 : Int32) σ2 (fun r3 σ3 => (r3 = 0 ∨ r3 = 13) ∧ (wq_Tr_has r3 x2 σ3 (fun r4 σ4 => ((¬ r4 = 0 → False) ∧ (r4 = 0 → post σ4))))))))))))
set_option maxRecDepth 100000 in
set_option maxHeartbeats 4000000 in
theorem b_Sd_holds_ns_0 {p : Program} {l : Launch} {e : Env} {s : State} {m : MethodId} {args : Array Value} {below : List Frame} {meth : Method} {c : Code} {D : va_G} {g : Gm} {A : Nat → Prop} {post : Sg → Prop} (C : kC p s m args meth c k_Sd_holds 3 (some .boolean) GW R_Sd D vwCl g (Zk g) A) (htr : l.stackTraces = false) (hout : c.exceptionTable.isEmpty = true) (x1 : Int32) (x2 : Int32) (σ : Sg) (H : Heap) (locs : List Loc) (ls : Array Slot) (hl : lv_has ls 3 [(0, .ref (g.1 51)), (1, .int x1), (2, .int x2)]) (hst : Wst D vwCl (WS g) A s σ H locs) (h : wq_Sd_holds_ns x1 x2 σ post) : W p l e { frames := 37, cells := 1, slots := 6, locals := 928 } s m args below meth c H locs 0 0 (MQT below E_ns (fun t => ∃ σ1, post σ1 ∧ Bw D vwCl (WS g) A σ1 t) A s 1 6) (F0 m 0 ls []) := by
  obtain ⟨hx, hb, hr, hml, hown, hts, hlocks, hK, hZ, hA⟩ := C
  unfold wq_Sd_holds_ns at h
  refine lv_aload_n hx hb d_Sd_holds_0 rfl (lv_at hl 0 rfl) ?_
  refine lv_iconst (v := (0 : Int32)) hx hb d_Sd_holds_1 (by decide) ?_
  refine kw_callr (va_runV (As := [.int (0 : Int32)]) (rest := []) (b := g.1 51) ⟨hx, hb, hml, hown, hts⟩ (c_Sd_readTree l (0 : Int32) h) (cwV 1 hts (gd_v gw605 gw607 gs3 gw1 gw608) rfl rfl rfl (by decide +kernel) ⟨Nat.le_of_ble_eq_true rfl, Nat.le_of_ble_eq_true rfl⟩) ⟨kw_blind (Zk_ok g), va_recv hK hst.1 rfl (WS_o51 g σ), kw_pre (Zk_ok g) hK hZ hA hst⟩ rfl rfl hl.1 rfl (lv_room (Nat.le_of_ble_eq_true rfl)) d_Sd_holds_2 ⟨Nat.le_of_ble_eq_true rfl, Nat.le_of_ble_eq_true rfl⟩) hst hA (fun r1 σ1 H locs h hst => ?_)
  obtain ⟨hb1, h⟩ := h
  rcases hb1 with rfl | rfl
  · refine lv_iload_n hx hb d_Sd_holds_5 rfl (lv_at hl 1 rfl) ?_
    refine kw_calli (va_runV (As := [.int x1]) (rest := []) (b := g.1 0) ⟨hx, hb, hml, hown, hts⟩ (c_Tr_has_0 l x1 h) (cwV 1 hts (gd_v gw701 gw702 gw703 gw7 gw704) rfl rfl rfl (by decide +kernel) ⟨Nat.le_of_ble_eq_true rfl, Nat.le_of_ble_eq_true rfl⟩) ⟨kw_blind (Zk_ok g), va_recv hK hst.1 rfl (WS_o0 g σ1), kw_pre (Zk_ok g) hK hZ hA hst⟩ rfl rfl hl.1 rfl (lv_room (Nat.le_of_ble_eq_true rfl)) d_Sd_holds_6 ⟨Nat.le_of_ble_eq_true rfl, Nat.le_of_ble_eq_true rfl⟩) hst hA (fun r2 σ2 H locs h hst => ?_)
    refine lv_if_eq (tgt := 24) hx hb d_Sd_holds_9 (by decide) (fun hc => ?_) (fun hc => ?_)
    · replace h := h.1 hc
      exact kt_throw (E := E_ns) (ia := 137) (ic := 139) hx hb hown hlocks htr (by decide) hts (Zk_ok g) hZ hst (at_ns g A) gw705 gw706 gw23 hout (hl.1.trans hml.symm) (Nat.le_of_ble_eq_true rfl) (Nat.le_of_ble_eq_true rfl) (Nat.le_of_ble_eq_true rfl) (Nat.le_of_ble_eq_true rfl) h d_Sd_holds_24 d_Sd_holds_27 d_Sd_holds_28 d_Sd_holds_31
    · replace h := h.2 hc
      refine lv_aload_n hx hb d_Sd_holds_12 rfl (lv_at hl 0 rfl) ?_
      refine lv_iconst (v := (1 : Int32)) hx hb d_Sd_holds_13 (by decide) ?_
      refine kw_callr (va_runV (As := [.int (1 : Int32)]) (rest := []) (b := g.1 51) ⟨hx, hb, hml, hown, hts⟩ (c_Sd_readTree l (1 : Int32) h) (cwV 1 hts (gd_v gw605 gw607 gs3 gw1 gw608) rfl rfl rfl (by decide +kernel) ⟨Nat.le_of_ble_eq_true rfl, Nat.le_of_ble_eq_true rfl⟩) ⟨kw_blind (Zk_ok g), va_recv hK hst.1 rfl (WS_o51 g σ2), kw_pre (Zk_ok g) hK hZ hA hst⟩ rfl rfl hl.1 rfl (lv_room (Nat.le_of_ble_eq_true rfl)) d_Sd_holds_14 ⟨Nat.le_of_ble_eq_true rfl, Nat.le_of_ble_eq_true rfl⟩) hst hA (fun r3 σ3 H locs h hst => ?_)
      obtain ⟨hb1, h⟩ := h
      rcases hb1 with rfl | rfl
      · refine lv_iload_n hx hb d_Sd_holds_17 rfl (lv_at hl 2 rfl) ?_
        refine kw_calli (va_runV (As := [.int x2]) (rest := []) (b := g.1 0) ⟨hx, hb, hml, hown, hts⟩ (c_Tr_has_0 l x2 h) (cwV 1 hts (gd_v gw701 gw702 gw703 gw7 gw704) rfl rfl rfl (by decide +kernel) ⟨Nat.le_of_ble_eq_true rfl, Nat.le_of_ble_eq_true rfl⟩) ⟨kw_blind (Zk_ok g), va_recv hK hst.1 rfl (WS_o0 g σ3), kw_pre (Zk_ok g) hK hZ hA hst⟩ rfl rfl hl.1 rfl (lv_room (Nat.le_of_ble_eq_true rfl)) d_Sd_holds_18 ⟨Nat.le_of_ble_eq_true rfl, Nat.le_of_ble_eq_true rfl⟩) hst hA (fun r4 σ4 H locs h hst => ?_)
        refine lv_if_ne (tgt := 32) hx hb d_Sd_holds_21 (by decide) (fun hc => ?_) (fun hc => ?_)
        · replace h := h.1 hc
          exact h.elim
        · replace h := h.2 hc
          exact kt_throw (E := E_ns) (ia := 137) (ic := 139) hx hb hown hlocks htr (by decide) hts (Zk_ok g) hZ hst (at_ns g A) gw705 gw706 gw23 hout (hl.1.trans hml.symm) (Nat.le_of_ble_eq_true rfl) (Nat.le_of_ble_eq_true rfl) (Nat.le_of_ble_eq_true rfl) (Nat.le_of_ble_eq_true rfl) h d_Sd_holds_24 d_Sd_holds_27 d_Sd_holds_28 d_Sd_holds_31
      · refine lv_iload_n hx hb d_Sd_holds_17 rfl (lv_at hl 2 rfl) ?_
        refine kw_calli (va_runV (As := [.int x2]) (rest := []) (b := g.1 13) ⟨hx, hb, hml, hown, hts⟩ (c_Tr_has_13 l x2 h) (cwV 1 hts (gd_v gw701 gw702 gw703 gw7 gw704) rfl rfl rfl (by decide +kernel) ⟨Nat.le_of_ble_eq_true rfl, Nat.le_of_ble_eq_true rfl⟩) ⟨kw_blind (Zk_ok g), va_recv hK hst.1 rfl (WS_o13 g σ3), kw_pre (Zk_ok g) hK hZ hA hst⟩ rfl rfl hl.1 rfl (lv_room (Nat.le_of_ble_eq_true rfl)) d_Sd_holds_18 ⟨Nat.le_of_ble_eq_true rfl, Nat.le_of_ble_eq_true rfl⟩) hst hA (fun r4 σ4 H locs h hst => ?_)
        refine lv_if_ne (tgt := 32) hx hb d_Sd_holds_21 (by decide) (fun hc => ?_) (fun hc => ?_)
        · replace h := h.1 hc
          exact h.elim
        · replace h := h.2 hc
          exact kt_throw (E := E_ns) (ia := 137) (ic := 139) hx hb hown hlocks htr (by decide) hts (Zk_ok g) hZ hst (at_ns g A) gw705 gw706 gw23 hout (hl.1.trans hml.symm) (Nat.le_of_ble_eq_true rfl) (Nat.le_of_ble_eq_true rfl) (Nat.le_of_ble_eq_true rfl) (Nat.le_of_ble_eq_true rfl) h d_Sd_holds_24 d_Sd_holds_27 d_Sd_holds_28 d_Sd_holds_31
  · refine lv_iload_n hx hb d_Sd_holds_5 rfl (lv_at hl 1 rfl) ?_
    refine kw_calli (va_runV (As := [.int x1]) (rest := []) (b := g.1 13) ⟨hx, hb, hml, hown, hts⟩ (c_Tr_has_13 l x1 h) (cwV 1 hts (gd_v gw701 gw702 gw703 gw7 gw704) rfl rfl rfl (by decide +kernel) ⟨Nat.le_of_ble_eq_true rfl, Nat.le_of_ble_eq_true rfl⟩) ⟨kw_blind (Zk_ok g), va_recv hK hst.1 rfl (WS_o13 g σ1), kw_pre (Zk_ok g) hK hZ hA hst⟩ rfl rfl hl.1 rfl (lv_room (Nat.le_of_ble_eq_true rfl)) d_Sd_holds_6 ⟨Nat.le_of_ble_eq_true rfl, Nat.le_of_ble_eq_true rfl⟩) hst hA (fun r2 σ2 H locs h hst => ?_)
    refine lv_if_eq (tgt := 24) hx hb d_Sd_holds_9 (by decide) (fun hc => ?_) (fun hc => ?_)
    · replace h := h.1 hc
      exact kt_throw (E := E_ns) (ia := 137) (ic := 139) hx hb hown hlocks htr (by decide) hts (Zk_ok g) hZ hst (at_ns g A) gw705 gw706 gw23 hout (hl.1.trans hml.symm) (Nat.le_of_ble_eq_true rfl) (Nat.le_of_ble_eq_true rfl) (Nat.le_of_ble_eq_true rfl) (Nat.le_of_ble_eq_true rfl) h d_Sd_holds_24 d_Sd_holds_27 d_Sd_holds_28 d_Sd_holds_31
    · replace h := h.2 hc
      refine lv_aload_n hx hb d_Sd_holds_12 rfl (lv_at hl 0 rfl) ?_
      refine lv_iconst (v := (1 : Int32)) hx hb d_Sd_holds_13 (by decide) ?_
      refine kw_callr (va_runV (As := [.int (1 : Int32)]) (rest := []) (b := g.1 51) ⟨hx, hb, hml, hown, hts⟩ (c_Sd_readTree l (1 : Int32) h) (cwV 1 hts (gd_v gw605 gw607 gs3 gw1 gw608) rfl rfl rfl (by decide +kernel) ⟨Nat.le_of_ble_eq_true rfl, Nat.le_of_ble_eq_true rfl⟩) ⟨kw_blind (Zk_ok g), va_recv hK hst.1 rfl (WS_o51 g σ2), kw_pre (Zk_ok g) hK hZ hA hst⟩ rfl rfl hl.1 rfl (lv_room (Nat.le_of_ble_eq_true rfl)) d_Sd_holds_14 ⟨Nat.le_of_ble_eq_true rfl, Nat.le_of_ble_eq_true rfl⟩) hst hA (fun r3 σ3 H locs h hst => ?_)
      obtain ⟨hb1, h⟩ := h
      rcases hb1 with rfl | rfl
      · refine lv_iload_n hx hb d_Sd_holds_17 rfl (lv_at hl 2 rfl) ?_
        refine kw_calli (va_runV (As := [.int x2]) (rest := []) (b := g.1 0) ⟨hx, hb, hml, hown, hts⟩ (c_Tr_has_0 l x2 h) (cwV 1 hts (gd_v gw701 gw702 gw703 gw7 gw704) rfl rfl rfl (by decide +kernel) ⟨Nat.le_of_ble_eq_true rfl, Nat.le_of_ble_eq_true rfl⟩) ⟨kw_blind (Zk_ok g), va_recv hK hst.1 rfl (WS_o0 g σ3), kw_pre (Zk_ok g) hK hZ hA hst⟩ rfl rfl hl.1 rfl (lv_room (Nat.le_of_ble_eq_true rfl)) d_Sd_holds_18 ⟨Nat.le_of_ble_eq_true rfl, Nat.le_of_ble_eq_true rfl⟩) hst hA (fun r4 σ4 H locs h hst => ?_)
        refine lv_if_ne (tgt := 32) hx hb d_Sd_holds_21 (by decide) (fun hc => ?_) (fun hc => ?_)
        · replace h := h.1 hc
          exact h.elim
        · replace h := h.2 hc
          exact kt_throw (E := E_ns) (ia := 137) (ic := 139) hx hb hown hlocks htr (by decide) hts (Zk_ok g) hZ hst (at_ns g A) gw705 gw706 gw23 hout (hl.1.trans hml.symm) (Nat.le_of_ble_eq_true rfl) (Nat.le_of_ble_eq_true rfl) (Nat.le_of_ble_eq_true rfl) (Nat.le_of_ble_eq_true rfl) h d_Sd_holds_24 d_Sd_holds_27 d_Sd_holds_28 d_Sd_holds_31
      · refine lv_iload_n hx hb d_Sd_holds_17 rfl (lv_at hl 2 rfl) ?_
        refine kw_calli (va_runV (As := [.int x2]) (rest := []) (b := g.1 13) ⟨hx, hb, hml, hown, hts⟩ (c_Tr_has_13 l x2 h) (cwV 1 hts (gd_v gw701 gw702 gw703 gw7 gw704) rfl rfl rfl (by decide +kernel) ⟨Nat.le_of_ble_eq_true rfl, Nat.le_of_ble_eq_true rfl⟩) ⟨kw_blind (Zk_ok g), va_recv hK hst.1 rfl (WS_o13 g σ3), kw_pre (Zk_ok g) hK hZ hA hst⟩ rfl rfl hl.1 rfl (lv_room (Nat.le_of_ble_eq_true rfl)) d_Sd_holds_18 ⟨Nat.le_of_ble_eq_true rfl, Nat.le_of_ble_eq_true rfl⟩) hst hA (fun r4 σ4 H locs h hst => ?_)
        refine lv_if_ne (tgt := 32) hx hb d_Sd_holds_21 (by decide) (fun hc => ?_) (fun hc => ?_)
        · replace h := h.1 hc
          exact h.elim
        · replace h := h.2 hc
          exact kt_throw (E := E_ns) (ia := 137) (ic := 139) hx hb hown hlocks htr (by decide) hts (Zk_ok g) hZ hst (at_ns g A) gw705 gw706 gw23 hout (hl.1.trans hml.symm) (Nat.le_of_ble_eq_true rfl) (Nat.le_of_ble_eq_true rfl) (Nat.le_of_ble_eq_true rfl) (Nat.le_of_ble_eq_true rfl) h d_Sd_holds_24 d_Sd_holds_27 d_Sd_holds_28 d_Sd_holds_31
set_option maxRecDepth 100000 in
set_option maxHeartbeats 4000000 in
theorem c_Sd_holds_ns (l : Launch) {D : va_G} {g : Gm} (htr : l.stackTraces = false) {sz : Nat} (x1 : Int32) (x2 : Int32) {σ : Sg} {post : Sg → Prop} (h : wq_Sd_holds_ns x1 x2 σ post) : MetT l y_Sd_holds (.code y_Sd_holds k_Sd_holds 3 (some .boolean) :: GW) { frames := 37, cells := 1, slots := 6, locals := 928 } (PcW D vwCl (WS g) g (Zk g) σ sz [.ref (g.1 51), .int x1, .int x2]) E_ns (fun t => ∃ σ1, post σ1 ∧ Bw D vwCl (WS g) (va_A (WS g σ) sz) σ1 t) (va_A (WS g σ) sz) 1 6 := by
  refine kt_entry (own := R_Sd) (by decide) rfl rfl (Nat.le_of_ble_eq_true rfl) ?_
  intro p e s m below meth c ls hsz C hout hl hst
  exact b_Sd_holds_ns_0 C htr hout x1 x2 σ _ _ ls hl hst h
theorem gw781 : (Jvm.Cond.classLink "SchemaDesk" (175 : Nat) "java/lang/UnsupportedOperationException") ∈ GW := gw_t4 (List.mem_of_getElem? (i := 61) rfl) rfl
theorem gw24 : (Jvm.Cond.initialized "java/lang/UnsupportedOperationException") ∈ GW := gw_t1 (List.mem_of_getElem? (i := 24) rfl) rfl
def wq_Sd_holds_uo (x1 : Int32) (x2 : Int32) (σ : Sg) (post : Sg → Prop) : Prop := (wq_Sd_readTree (0 : Int32) σ (fun r1 σ1 => (r1 = 0 ∨ r1 = 13) ∧ (wq_Tr_has r1 x1 σ1 (fun r2 σ2 => ((r2 = 0 → False) ∧ (¬ r2 = 0 → (wq_Sd_readTree (1 : Int32) σ2 (fun r3 σ3 => (r3 = 0 ∨ r3 = 13) ∧ (wq_Tr_has r3 x2 σ3 (fun r4 σ4 => ((¬ r4 = 0 → (wq_Pl_refresh  σ4 (fun σ5 => (((σ5.1 29 7) = 0 → False) ∧ (¬ (σ5.1 29 7) = 0 → post σ5))))) ∧ (r4 = 0 → False))))))))))))
set_option maxRecDepth 100000 in
set_option maxHeartbeats 4000000 in
theorem b_Sd_holds_uo_0 {p : Program} {l : Launch} {e : Env} {s : State} {m : MethodId} {args : Array Value} {below : List Frame} {meth : Method} {c : Code} {D : va_G} {g : Gm} {A : Nat → Prop} {post : Sg → Prop} (C : kC p s m args meth c k_Sd_holds 3 (some .boolean) GW R_Sd D vwCl g (Zk g) A) (htr : l.stackTraces = false) (hout : c.exceptionTable.isEmpty = true) (x1 : Int32) (x2 : Int32) (σ : Sg) (H : Heap) (locs : List Loc) (ls : Array Slot) (hl : lv_has ls 3 [(0, .ref (g.1 51)), (1, .int x1), (2, .int x2)]) (hst : Wst D vwCl (WS g) A s σ H locs) (h : wq_Sd_holds_uo x1 x2 σ post) : W p l e { frames := 37, cells := 1, slots := 6, locals := 928 } s m args below meth c H locs 0 0 (MQT below E_uo (fun t => ∃ σ1, post σ1 ∧ Bw D vwCl (WS g) A σ1 t) A s 1 6) (F0 m 0 ls []) := by
  obtain ⟨hx, hb, hr, hml, hown, hts, hlocks, hK, hZ, hA⟩ := C
  unfold wq_Sd_holds_uo at h
  refine lv_aload_n hx hb d_Sd_holds_0 rfl (lv_at hl 0 rfl) ?_
  refine lv_iconst (v := (0 : Int32)) hx hb d_Sd_holds_1 (by decide) ?_
  refine kw_callr (va_runV (As := [.int (0 : Int32)]) (rest := []) (b := g.1 51) ⟨hx, hb, hml, hown, hts⟩ (c_Sd_readTree l (0 : Int32) h) (cwV 1 hts (gd_v gw605 gw607 gs3 gw1 gw608) rfl rfl rfl (by decide +kernel) ⟨Nat.le_of_ble_eq_true rfl, Nat.le_of_ble_eq_true rfl⟩) ⟨kw_blind (Zk_ok g), va_recv hK hst.1 rfl (WS_o51 g σ), kw_pre (Zk_ok g) hK hZ hA hst⟩ rfl rfl hl.1 rfl (lv_room (Nat.le_of_ble_eq_true rfl)) d_Sd_holds_2 ⟨Nat.le_of_ble_eq_true rfl, Nat.le_of_ble_eq_true rfl⟩) hst hA (fun r1 σ1 H locs h hst => ?_)
  obtain ⟨hb1, h⟩ := h
  rcases hb1 with rfl | rfl
  · refine lv_iload_n hx hb d_Sd_holds_5 rfl (lv_at hl 1 rfl) ?_
    refine kw_calli (va_runV (As := [.int x1]) (rest := []) (b := g.1 0) ⟨hx, hb, hml, hown, hts⟩ (c_Tr_has_0 l x1 h) (cwV 1 hts (gd_v gw701 gw702 gw703 gw7 gw704) rfl rfl rfl (by decide +kernel) ⟨Nat.le_of_ble_eq_true rfl, Nat.le_of_ble_eq_true rfl⟩) ⟨kw_blind (Zk_ok g), va_recv hK hst.1 rfl (WS_o0 g σ1), kw_pre (Zk_ok g) hK hZ hA hst⟩ rfl rfl hl.1 rfl (lv_room (Nat.le_of_ble_eq_true rfl)) d_Sd_holds_6 ⟨Nat.le_of_ble_eq_true rfl, Nat.le_of_ble_eq_true rfl⟩) hst hA (fun r2 σ2 H locs h hst => ?_)
    refine lv_if_eq (tgt := 24) hx hb d_Sd_holds_9 (by decide) (fun hc => ?_) (fun hc => ?_)
    · replace h := h.1 hc
      exact h.elim
    · replace h := h.2 hc
      refine lv_aload_n hx hb d_Sd_holds_12 rfl (lv_at hl 0 rfl) ?_
      refine lv_iconst (v := (1 : Int32)) hx hb d_Sd_holds_13 (by decide) ?_
      refine kw_callr (va_runV (As := [.int (1 : Int32)]) (rest := []) (b := g.1 51) ⟨hx, hb, hml, hown, hts⟩ (c_Sd_readTree l (1 : Int32) h) (cwV 1 hts (gd_v gw605 gw607 gs3 gw1 gw608) rfl rfl rfl (by decide +kernel) ⟨Nat.le_of_ble_eq_true rfl, Nat.le_of_ble_eq_true rfl⟩) ⟨kw_blind (Zk_ok g), va_recv hK hst.1 rfl (WS_o51 g σ2), kw_pre (Zk_ok g) hK hZ hA hst⟩ rfl rfl hl.1 rfl (lv_room (Nat.le_of_ble_eq_true rfl)) d_Sd_holds_14 ⟨Nat.le_of_ble_eq_true rfl, Nat.le_of_ble_eq_true rfl⟩) hst hA (fun r3 σ3 H locs h hst => ?_)
      obtain ⟨hb1, h⟩ := h
      rcases hb1 with rfl | rfl
      · refine lv_iload_n hx hb d_Sd_holds_17 rfl (lv_at hl 2 rfl) ?_
        refine kw_calli (va_runV (As := [.int x2]) (rest := []) (b := g.1 0) ⟨hx, hb, hml, hown, hts⟩ (c_Tr_has_0 l x2 h) (cwV 1 hts (gd_v gw701 gw702 gw703 gw7 gw704) rfl rfl rfl (by decide +kernel) ⟨Nat.le_of_ble_eq_true rfl, Nat.le_of_ble_eq_true rfl⟩) ⟨kw_blind (Zk_ok g), va_recv hK hst.1 rfl (WS_o0 g σ3), kw_pre (Zk_ok g) hK hZ hA hst⟩ rfl rfl hl.1 rfl (lv_room (Nat.le_of_ble_eq_true rfl)) d_Sd_holds_18 ⟨Nat.le_of_ble_eq_true rfl, Nat.le_of_ble_eq_true rfl⟩) hst hA (fun r4 σ4 H locs h hst => ?_)
        refine lv_if_ne (tgt := 32) hx hb d_Sd_holds_21 (by decide) (fun hc => ?_) (fun hc => ?_)
        · replace h := h.1 hc
          refine lv_aload_n hx hb d_Sd_holds_32 rfl (lv_at hl 0 rfl) ?_
          refine va_get (D := D) (ci := 9) (C := R_Sd) (T := T_Sd) (N := 9) hx hb hts in_Sd hown hK hst.1 51 (WS_o51 g σ4) rfl 5 (by decide) (hts _ gw404) (fun _ h9 => h9) rfl d_Sd_holds_33 ?_
          refine kw_callv (va_runV (As := []) (rest := []) (b := g.1 29) ⟨hx, hb, hml, hown, hts⟩ (c_Pl_refresh l h) (cwV 0 hts (gd_v gw742 gw743 gw744 gw10 gw745) rfl rfl rfl (by decide +kernel) ⟨Nat.le_of_ble_eq_true rfl, Nat.le_of_ble_eq_true rfl⟩) ⟨kw_blind (Zk_ok g), va_recv hK hst.1 rfl (WS_o29 g σ4), kw_pre (Zk_ok g) hK hZ hA hst⟩ rfl rfl hl.1 rfl (lv_room (Nat.le_of_ble_eq_true rfl)) d_Sd_holds_36 ⟨Nat.le_of_ble_eq_true rfl, Nat.le_of_ble_eq_true rfl⟩) hst hA (fun σ5 H locs h hst => ?_)
          refine lv_aload_n hx hb d_Sd_holds_39 rfl (lv_at hl 0 rfl) ?_
          refine va_get (D := D) (ci := 9) (C := R_Sd) (T := T_Sd) (N := 9) hx hb hts in_Sd hown hK hst.1 51 (WS_o51 g σ5) rfl 5 (by decide) (hts _ gw404) (fun _ h9 => h9) rfl d_Sd_holds_40 ?_
          refine va_get (D := D) (ci := 5) (C := R_Pl) (T := T_Pl) (N := 10) hx hb hts in_Pl hown hK hst.1 29 (WS_o29 g σ5) rfl 7 (by decide) (hts _ gw256) (fun _ h9 => h9) rfl d_Sd_holds_43 ?_
          refine lv_if_eq (tgt := 57) hx hb d_Sd_holds_46 (by decide) (fun hc => ?_) (fun hc => ?_)
          · replace h := h.1 hc
            exact h.elim
          · replace h := h.2 hc
            exact kt_throw (E := E_uo) (ia := 175) (ic := 177) hx hb hown hlocks htr (by decide) hts (Zk_ok g) hZ hst (at_uo g A) gw781 gw782 gw24 hout (hl.1.trans hml.symm) (Nat.le_of_ble_eq_true rfl) (Nat.le_of_ble_eq_true rfl) (Nat.le_of_ble_eq_true rfl) (Nat.le_of_ble_eq_true rfl) h d_Sd_holds_49 d_Sd_holds_52 d_Sd_holds_53 d_Sd_holds_56
        · replace h := h.2 hc
          exact h.elim
      · refine lv_iload_n hx hb d_Sd_holds_17 rfl (lv_at hl 2 rfl) ?_
        refine kw_calli (va_runV (As := [.int x2]) (rest := []) (b := g.1 13) ⟨hx, hb, hml, hown, hts⟩ (c_Tr_has_13 l x2 h) (cwV 1 hts (gd_v gw701 gw702 gw703 gw7 gw704) rfl rfl rfl (by decide +kernel) ⟨Nat.le_of_ble_eq_true rfl, Nat.le_of_ble_eq_true rfl⟩) ⟨kw_blind (Zk_ok g), va_recv hK hst.1 rfl (WS_o13 g σ3), kw_pre (Zk_ok g) hK hZ hA hst⟩ rfl rfl hl.1 rfl (lv_room (Nat.le_of_ble_eq_true rfl)) d_Sd_holds_18 ⟨Nat.le_of_ble_eq_true rfl, Nat.le_of_ble_eq_true rfl⟩) hst hA (fun r4 σ4 H locs h hst => ?_)
        refine lv_if_ne (tgt := 32) hx hb d_Sd_holds_21 (by decide) (fun hc => ?_) (fun hc => ?_)
        · replace h := h.1 hc
          refine lv_aload_n hx hb d_Sd_holds_32 rfl (lv_at hl 0 rfl) ?_
          refine va_get (D := D) (ci := 9) (C := R_Sd) (T := T_Sd) (N := 9) hx hb hts in_Sd hown hK hst.1 51 (WS_o51 g σ4) rfl 5 (by decide) (hts _ gw404) (fun _ h9 => h9) rfl d_Sd_holds_33 ?_
          refine kw_callv (va_runV (As := []) (rest := []) (b := g.1 29) ⟨hx, hb, hml, hown, hts⟩ (c_Pl_refresh l h) (cwV 0 hts (gd_v gw742 gw743 gw744 gw10 gw745) rfl rfl rfl (by decide +kernel) ⟨Nat.le_of_ble_eq_true rfl, Nat.le_of_ble_eq_true rfl⟩) ⟨kw_blind (Zk_ok g), va_recv hK hst.1 rfl (WS_o29 g σ4), kw_pre (Zk_ok g) hK hZ hA hst⟩ rfl rfl hl.1 rfl (lv_room (Nat.le_of_ble_eq_true rfl)) d_Sd_holds_36 ⟨Nat.le_of_ble_eq_true rfl, Nat.le_of_ble_eq_true rfl⟩) hst hA (fun σ5 H locs h hst => ?_)
          refine lv_aload_n hx hb d_Sd_holds_39 rfl (lv_at hl 0 rfl) ?_
          refine va_get (D := D) (ci := 9) (C := R_Sd) (T := T_Sd) (N := 9) hx hb hts in_Sd hown hK hst.1 51 (WS_o51 g σ5) rfl 5 (by decide) (hts _ gw404) (fun _ h9 => h9) rfl d_Sd_holds_40 ?_
          refine va_get (D := D) (ci := 5) (C := R_Pl) (T := T_Pl) (N := 10) hx hb hts in_Pl hown hK hst.1 29 (WS_o29 g σ5) rfl 7 (by decide) (hts _ gw256) (fun _ h9 => h9) rfl d_Sd_holds_43 ?_
          refine lv_if_eq (tgt := 57) hx hb d_Sd_holds_46 (by decide) (fun hc => ?_) (fun hc => ?_)
          · replace h := h.1 hc
            exact h.elim
          · replace h := h.2 hc
            exact kt_throw (E := E_uo) (ia := 175) (ic := 177) hx hb hown hlocks htr (by decide) hts (Zk_ok g) hZ hst (at_uo g A) gw781 gw782 gw24 hout (hl.1.trans hml.symm) (Nat.le_of_ble_eq_true rfl) (Nat.le_of_ble_eq_true rfl) (Nat.le_of_ble_eq_true rfl) (Nat.le_of_ble_eq_true rfl) h d_Sd_holds_49 d_Sd_holds_52 d_Sd_holds_53 d_Sd_holds_56
        · replace h := h.2 hc
          exact h.elim
  · refine lv_iload_n hx hb d_Sd_holds_5 rfl (lv_at hl 1 rfl) ?_
    refine kw_calli (va_runV (As := [.int x1]) (rest := []) (b := g.1 13) ⟨hx, hb, hml, hown, hts⟩ (c_Tr_has_13 l x1 h) (cwV 1 hts (gd_v gw701 gw702 gw703 gw7 gw704) rfl rfl rfl (by decide +kernel) ⟨Nat.le_of_ble_eq_true rfl, Nat.le_of_ble_eq_true rfl⟩) ⟨kw_blind (Zk_ok g), va_recv hK hst.1 rfl (WS_o13 g σ1), kw_pre (Zk_ok g) hK hZ hA hst⟩ rfl rfl hl.1 rfl (lv_room (Nat.le_of_ble_eq_true rfl)) d_Sd_holds_6 ⟨Nat.le_of_ble_eq_true rfl, Nat.le_of_ble_eq_true rfl⟩) hst hA (fun r2 σ2 H locs h hst => ?_)
    refine lv_if_eq (tgt := 24) hx hb d_Sd_holds_9 (by decide) (fun hc => ?_) (fun hc => ?_)
    · replace h := h.1 hc
      exact h.elim
    · replace h := h.2 hc
      refine lv_aload_n hx hb d_Sd_holds_12 rfl (lv_at hl 0 rfl) ?_
      refine lv_iconst (v := (1 : Int32)) hx hb d_Sd_holds_13 (by decide) ?_
      refine kw_callr (va_runV (As := [.int (1 : Int32)]) (rest := []) (b := g.1 51) ⟨hx, hb, hml, hown, hts⟩ (c_Sd_readTree l (1 : Int32) h) (cwV 1 hts (gd_v gw605 gw607 gs3 gw1 gw608) rfl rfl rfl (by decide +kernel) ⟨Nat.le_of_ble_eq_true rfl, Nat.le_of_ble_eq_true rfl⟩) ⟨kw_blind (Zk_ok g), va_recv hK hst.1 rfl (WS_o51 g σ2), kw_pre (Zk_ok g) hK hZ hA hst⟩ rfl rfl hl.1 rfl (lv_room (Nat.le_of_ble_eq_true rfl)) d_Sd_holds_14 ⟨Nat.le_of_ble_eq_true rfl, Nat.le_of_ble_eq_true rfl⟩) hst hA (fun r3 σ3 H locs h hst => ?_)
      obtain ⟨hb1, h⟩ := h
      rcases hb1 with rfl | rfl
      · refine lv_iload_n hx hb d_Sd_holds_17 rfl (lv_at hl 2 rfl) ?_
        refine kw_calli (va_runV (As := [.int x2]) (rest := []) (b := g.1 0) ⟨hx, hb, hml, hown, hts⟩ (c_Tr_has_0 l x2 h) (cwV 1 hts (gd_v gw701 gw702 gw703 gw7 gw704) rfl rfl rfl (by decide +kernel) ⟨Nat.le_of_ble_eq_true rfl, Nat.le_of_ble_eq_true rfl⟩) ⟨kw_blind (Zk_ok g), va_recv hK hst.1 rfl (WS_o0 g σ3), kw_pre (Zk_ok g) hK hZ hA hst⟩ rfl rfl hl.1 rfl (lv_room (Nat.le_of_ble_eq_true rfl)) d_Sd_holds_18 ⟨Nat.le_of_ble_eq_true rfl, Nat.le_of_ble_eq_true rfl⟩) hst hA (fun r4 σ4 H locs h hst => ?_)
        refine lv_if_ne (tgt := 32) hx hb d_Sd_holds_21 (by decide) (fun hc => ?_) (fun hc => ?_)
        · replace h := h.1 hc
          refine lv_aload_n hx hb d_Sd_holds_32 rfl (lv_at hl 0 rfl) ?_
          refine va_get (D := D) (ci := 9) (C := R_Sd) (T := T_Sd) (N := 9) hx hb hts in_Sd hown hK hst.1 51 (WS_o51 g σ4) rfl 5 (by decide) (hts _ gw404) (fun _ h9 => h9) rfl d_Sd_holds_33 ?_
          refine kw_callv (va_runV (As := []) (rest := []) (b := g.1 29) ⟨hx, hb, hml, hown, hts⟩ (c_Pl_refresh l h) (cwV 0 hts (gd_v gw742 gw743 gw744 gw10 gw745) rfl rfl rfl (by decide +kernel) ⟨Nat.le_of_ble_eq_true rfl, Nat.le_of_ble_eq_true rfl⟩) ⟨kw_blind (Zk_ok g), va_recv hK hst.1 rfl (WS_o29 g σ4), kw_pre (Zk_ok g) hK hZ hA hst⟩ rfl rfl hl.1 rfl (lv_room (Nat.le_of_ble_eq_true rfl)) d_Sd_holds_36 ⟨Nat.le_of_ble_eq_true rfl, Nat.le_of_ble_eq_true rfl⟩) hst hA (fun σ5 H locs h hst => ?_)
          refine lv_aload_n hx hb d_Sd_holds_39 rfl (lv_at hl 0 rfl) ?_
          refine va_get (D := D) (ci := 9) (C := R_Sd) (T := T_Sd) (N := 9) hx hb hts in_Sd hown hK hst.1 51 (WS_o51 g σ5) rfl 5 (by decide) (hts _ gw404) (fun _ h9 => h9) rfl d_Sd_holds_40 ?_
          refine va_get (D := D) (ci := 5) (C := R_Pl) (T := T_Pl) (N := 10) hx hb hts in_Pl hown hK hst.1 29 (WS_o29 g σ5) rfl 7 (by decide) (hts _ gw256) (fun _ h9 => h9) rfl d_Sd_holds_43 ?_
          refine lv_if_eq (tgt := 57) hx hb d_Sd_holds_46 (by decide) (fun hc => ?_) (fun hc => ?_)
          · replace h := h.1 hc
            exact h.elim
          · replace h := h.2 hc
            exact kt_throw (E := E_uo) (ia := 175) (ic := 177) hx hb hown hlocks htr (by decide) hts (Zk_ok g) hZ hst (at_uo g A) gw781 gw782 gw24 hout (hl.1.trans hml.symm) (Nat.le_of_ble_eq_true rfl) (Nat.le_of_ble_eq_true rfl) (Nat.le_of_ble_eq_true rfl) (Nat.le_of_ble_eq_true rfl) h d_Sd_holds_49 d_Sd_holds_52 d_Sd_holds_53 d_Sd_holds_56
        · replace h := h.2 hc
          exact h.elim
      · refine lv_iload_n hx hb d_Sd_holds_17 rfl (lv_at hl 2 rfl) ?_
        refine kw_calli (va_runV (As := [.int x2]) (rest := []) (b := g.1 13) ⟨hx, hb, hml, hown, hts⟩ (c_Tr_has_13 l x2 h) (cwV 1 hts (gd_v gw701 gw702 gw703 gw7 gw704) rfl rfl rfl (by decide +kernel) ⟨Nat.le_of_ble_eq_true rfl, Nat.le_of_ble_eq_true rfl⟩) ⟨kw_blind (Zk_ok g), va_recv hK hst.1 rfl (WS_o13 g σ3), kw_pre (Zk_ok g) hK hZ hA hst⟩ rfl rfl hl.1 rfl (lv_room (Nat.le_of_ble_eq_true rfl)) d_Sd_holds_18 ⟨Nat.le_of_ble_eq_true rfl, Nat.le_of_ble_eq_true rfl⟩) hst hA (fun r4 σ4 H locs h hst => ?_)
        refine lv_if_ne (tgt := 32) hx hb d_Sd_holds_21 (by decide) (fun hc => ?_) (fun hc => ?_)
        · replace h := h.1 hc
          refine lv_aload_n hx hb d_Sd_holds_32 rfl (lv_at hl 0 rfl) ?_
          refine va_get (D := D) (ci := 9) (C := R_Sd) (T := T_Sd) (N := 9) hx hb hts in_Sd hown hK hst.1 51 (WS_o51 g σ4) rfl 5 (by decide) (hts _ gw404) (fun _ h9 => h9) rfl d_Sd_holds_33 ?_
          refine kw_callv (va_runV (As := []) (rest := []) (b := g.1 29) ⟨hx, hb, hml, hown, hts⟩ (c_Pl_refresh l h) (cwV 0 hts (gd_v gw742 gw743 gw744 gw10 gw745) rfl rfl rfl (by decide +kernel) ⟨Nat.le_of_ble_eq_true rfl, Nat.le_of_ble_eq_true rfl⟩) ⟨kw_blind (Zk_ok g), va_recv hK hst.1 rfl (WS_o29 g σ4), kw_pre (Zk_ok g) hK hZ hA hst⟩ rfl rfl hl.1 rfl (lv_room (Nat.le_of_ble_eq_true rfl)) d_Sd_holds_36 ⟨Nat.le_of_ble_eq_true rfl, Nat.le_of_ble_eq_true rfl⟩) hst hA (fun σ5 H locs h hst => ?_)
          refine lv_aload_n hx hb d_Sd_holds_39 rfl (lv_at hl 0 rfl) ?_
          refine va_get (D := D) (ci := 9) (C := R_Sd) (T := T_Sd) (N := 9) hx hb hts in_Sd hown hK hst.1 51 (WS_o51 g σ5) rfl 5 (by decide) (hts _ gw404) (fun _ h9 => h9) rfl d_Sd_holds_40 ?_
          refine va_get (D := D) (ci := 5) (C := R_Pl) (T := T_Pl) (N := 10) hx hb hts in_Pl hown hK hst.1 29 (WS_o29 g σ5) rfl 7 (by decide) (hts _ gw256) (fun _ h9 => h9) rfl d_Sd_holds_43 ?_
          refine lv_if_eq (tgt := 57) hx hb d_Sd_holds_46 (by decide) (fun hc => ?_) (fun hc => ?_)
          · replace h := h.1 hc
            exact h.elim
          · replace h := h.2 hc
            exact kt_throw (E := E_uo) (ia := 175) (ic := 177) hx hb hown hlocks htr (by decide) hts (Zk_ok g) hZ hst (at_uo g A) gw781 gw782 gw24 hout (hl.1.trans hml.symm) (Nat.le_of_ble_eq_true rfl) (Nat.le_of_ble_eq_true rfl) (Nat.le_of_ble_eq_true rfl) (Nat.le_of_ble_eq_true rfl) h d_Sd_holds_49 d_Sd_holds_52 d_Sd_holds_53 d_Sd_holds_56
        · replace h := h.2 hc
          exact h.elim
set_option maxRecDepth 100000 in
set_option maxHeartbeats 4000000 in
theorem c_Sd_holds_uo (l : Launch) {D : va_G} {g : Gm} (htr : l.stackTraces = false) {sz : Nat} (x1 : Int32) (x2 : Int32) {σ : Sg} {post : Sg → Prop} (h : wq_Sd_holds_uo x1 x2 σ post) : MetT l y_Sd_holds (.code y_Sd_holds k_Sd_holds 3 (some .boolean) :: GW) { frames := 37, cells := 1, slots := 6, locals := 928 } (PcW D vwCl (WS g) g (Zk g) σ sz [.ref (g.1 51), .int x1, .int x2]) E_uo (fun t => ∃ σ1, post σ1 ∧ Bw D vwCl (WS g) (va_A (WS g σ) sz) σ1 t) (va_A (WS g σ) sz) 1 6 := by
  refine kt_entry (own := R_Sd) (by decide) rfl rfl (Nat.le_of_ble_eq_true rfl) ?_
  intro p e s m below meth c ls hsz C hout hl hst
  exact b_Sd_holds_uo_0 C htr hout x1 x2 σ _ _ ls hl hst h
def wq_Sd_judge_is (σ : Sg) (post : Sg → Prop) : Prop := (wq_Sd_readTree (0 : Int32) σ (fun r1 σ1 => (r1 = 0 ∨ r1 = 13) ∧ ((0 < (σ1.1 r1 11) → post σ1) ∧ (¬ 0 < (σ1.1 r1 11) → (wq_Sd_readTree (1 : Int32) σ1 (fun r2 σ2 => (r2 = 0 ∨ r2 = 13) ∧ (((σ2.1 r2 11) ≤ 0 → False) ∧ (¬ (σ2.1 r2 11) ≤ 0 → post σ2))))))))
set_option maxRecDepth 100000 in
set_option maxHeartbeats 4000000 in
theorem b_Sd_judge_is_0 {p : Program} {l : Launch} {e : Env} {s : State} {m : MethodId} {args : Array Value} {below : List Frame} {meth : Method} {c : Code} {D : va_G} {g : Gm} {A : Nat → Prop} {post : Sg → Prop} (C : kC p s m args meth c k_Sd_judge 1 (some .int) GW R_Sd D vwCl g (Zk g) A) (htr : l.stackTraces = false) (hout : c.exceptionTable.isEmpty = true) (σ : Sg) (H : Heap) (locs : List Loc) (ls : Array Slot) (hl : lv_has ls 1 [(0, .ref (g.1 51))]) (hst : Wst D vwCl (WS g) A s σ H locs) (h : wq_Sd_judge_is  σ post) : W p l e { frames := 37, cells := 1, slots := 6, locals := 928 } s m args below meth c H locs 0 0 (MQT below E_is (fun t => ∃ σ1, post σ1 ∧ Bw D vwCl (WS g) A σ1 t) A s 1 6) (F0 m 0 ls []) := by
  obtain ⟨hx, hb, hr, hml, hown, hts, hlocks, hK, hZ, hA⟩ := C
  unfold wq_Sd_judge_is at h
  refine lv_aload_n hx hb d_Sd_judge_0 rfl (lv_at hl 0 rfl) ?_
  refine lv_iconst (v := (0 : Int32)) hx hb d_Sd_judge_1 (by decide) ?_
  refine kw_callr (va_runV (As := [.int (0 : Int32)]) (rest := []) (b := g.1 51) ⟨hx, hb, hml, hown, hts⟩ (c_Sd_readTree l (0 : Int32) h) (cwV 1 hts (gd_v gw605 gw607 gs3 gw1 gw608) rfl rfl rfl (by decide +kernel) ⟨Nat.le_of_ble_eq_true rfl, Nat.le_of_ble_eq_true rfl⟩) ⟨kw_blind (Zk_ok g), va_recv hK hst.1 rfl (WS_o51 g σ), kw_pre (Zk_ok g) hK hZ hA hst⟩ rfl rfl hl.1 rfl (lv_room (Nat.le_of_ble_eq_true rfl)) d_Sd_judge_2 ⟨Nat.le_of_ble_eq_true rfl, Nat.le_of_ble_eq_true rfl⟩) hst hA (fun r1 σ1 H locs h hst => ?_)
  obtain ⟨hb1, h⟩ := h
  rcases hb1 with rfl | rfl
  · refine va_get (D := D) (ci := 0) (C := R_Tr) (T := T_Tr) (N := 12) hx hb hts in_Tr hown hK hst.1 0 (WS_o0 g σ1) rfl 11 (by decide) (hts _ gw176) (fun _ h9 => h9) rfl d_Sd_judge_5 ?_
    refine lv_if_gt (tgt := 22) hx hb d_Sd_judge_8 (by decide) (fun hc => ?_) (fun hc => ?_)
    · replace h := h.1 hc
      exact kt_throw (E := E_is) (ia := 118) (ic := 120) hx hb hown hlocks htr (by decide) hts (Zk_ok g) hZ hst (at_is g A) gw558 gw559 gw22 hout (hl.1.trans hml.symm) (Nat.le_of_ble_eq_true rfl) (Nat.le_of_ble_eq_true rfl) (Nat.le_of_ble_eq_true rfl) (Nat.le_of_ble_eq_true rfl) h d_Sd_judge_22 d_Sd_judge_25 d_Sd_judge_26 d_Sd_judge_29
    · replace h := h.2 hc
      refine lv_aload_n hx hb d_Sd_judge_11 rfl (lv_at hl 0 rfl) ?_
      refine lv_iconst (v := (1 : Int32)) hx hb d_Sd_judge_12 (by decide) ?_
      refine kw_callr (va_runV (As := [.int (1 : Int32)]) (rest := []) (b := g.1 51) ⟨hx, hb, hml, hown, hts⟩ (c_Sd_readTree l (1 : Int32) h) (cwV 1 hts (gd_v gw605 gw607 gs3 gw1 gw608) rfl rfl rfl (by decide +kernel) ⟨Nat.le_of_ble_eq_true rfl, Nat.le_of_ble_eq_true rfl⟩) ⟨kw_blind (Zk_ok g), va_recv hK hst.1 rfl (WS_o51 g σ1), kw_pre (Zk_ok g) hK hZ hA hst⟩ rfl rfl hl.1 rfl (lv_room (Nat.le_of_ble_eq_true rfl)) d_Sd_judge_13 ⟨Nat.le_of_ble_eq_true rfl, Nat.le_of_ble_eq_true rfl⟩) hst hA (fun r2 σ2 H locs h hst => ?_)
      obtain ⟨hb1, h⟩ := h
      rcases hb1 with rfl | rfl
      · refine va_get (D := D) (ci := 0) (C := R_Tr) (T := T_Tr) (N := 12) hx hb hts in_Tr hown hK hst.1 0 (WS_o0 g σ2) rfl 11 (by decide) (hts _ gw176) (fun _ h9 => h9) rfl d_Sd_judge_16 ?_
        refine lv_if_le (tgt := 30) hx hb d_Sd_judge_19 (by decide) (fun hc => ?_) (fun hc => ?_)
        · replace h := h.1 hc
          exact h.elim
        · replace h := h.2 hc
          exact kt_throw (E := E_is) (ia := 118) (ic := 120) hx hb hown hlocks htr (by decide) hts (Zk_ok g) hZ hst (at_is g A) gw558 gw559 gw22 hout (hl.1.trans hml.symm) (Nat.le_of_ble_eq_true rfl) (Nat.le_of_ble_eq_true rfl) (Nat.le_of_ble_eq_true rfl) (Nat.le_of_ble_eq_true rfl) h d_Sd_judge_22 d_Sd_judge_25 d_Sd_judge_26 d_Sd_judge_29
      · refine va_get (D := D) (ci := 0) (C := R_Tr) (T := T_Tr) (N := 12) hx hb hts in_Tr hown hK hst.1 13 (WS_o13 g σ2) rfl 11 (by decide) (hts _ gw176) (fun _ h9 => h9) rfl d_Sd_judge_16 ?_
        refine lv_if_le (tgt := 30) hx hb d_Sd_judge_19 (by decide) (fun hc => ?_) (fun hc => ?_)
        · replace h := h.1 hc
          exact h.elim
        · replace h := h.2 hc
          exact kt_throw (E := E_is) (ia := 118) (ic := 120) hx hb hown hlocks htr (by decide) hts (Zk_ok g) hZ hst (at_is g A) gw558 gw559 gw22 hout (hl.1.trans hml.symm) (Nat.le_of_ble_eq_true rfl) (Nat.le_of_ble_eq_true rfl) (Nat.le_of_ble_eq_true rfl) (Nat.le_of_ble_eq_true rfl) h d_Sd_judge_22 d_Sd_judge_25 d_Sd_judge_26 d_Sd_judge_29
  · refine va_get (D := D) (ci := 0) (C := R_Tr) (T := T_Tr) (N := 12) hx hb hts in_Tr hown hK hst.1 13 (WS_o13 g σ1) rfl 11 (by decide) (hts _ gw176) (fun _ h9 => h9) rfl d_Sd_judge_5 ?_
    refine lv_if_gt (tgt := 22) hx hb d_Sd_judge_8 (by decide) (fun hc => ?_) (fun hc => ?_)
    · replace h := h.1 hc
      exact kt_throw (E := E_is) (ia := 118) (ic := 120) hx hb hown hlocks htr (by decide) hts (Zk_ok g) hZ hst (at_is g A) gw558 gw559 gw22 hout (hl.1.trans hml.symm) (Nat.le_of_ble_eq_true rfl) (Nat.le_of_ble_eq_true rfl) (Nat.le_of_ble_eq_true rfl) (Nat.le_of_ble_eq_true rfl) h d_Sd_judge_22 d_Sd_judge_25 d_Sd_judge_26 d_Sd_judge_29
    · replace h := h.2 hc
      refine lv_aload_n hx hb d_Sd_judge_11 rfl (lv_at hl 0 rfl) ?_
      refine lv_iconst (v := (1 : Int32)) hx hb d_Sd_judge_12 (by decide) ?_
      refine kw_callr (va_runV (As := [.int (1 : Int32)]) (rest := []) (b := g.1 51) ⟨hx, hb, hml, hown, hts⟩ (c_Sd_readTree l (1 : Int32) h) (cwV 1 hts (gd_v gw605 gw607 gs3 gw1 gw608) rfl rfl rfl (by decide +kernel) ⟨Nat.le_of_ble_eq_true rfl, Nat.le_of_ble_eq_true rfl⟩) ⟨kw_blind (Zk_ok g), va_recv hK hst.1 rfl (WS_o51 g σ1), kw_pre (Zk_ok g) hK hZ hA hst⟩ rfl rfl hl.1 rfl (lv_room (Nat.le_of_ble_eq_true rfl)) d_Sd_judge_13 ⟨Nat.le_of_ble_eq_true rfl, Nat.le_of_ble_eq_true rfl⟩) hst hA (fun r2 σ2 H locs h hst => ?_)
      obtain ⟨hb1, h⟩ := h
      rcases hb1 with rfl | rfl
      · refine va_get (D := D) (ci := 0) (C := R_Tr) (T := T_Tr) (N := 12) hx hb hts in_Tr hown hK hst.1 0 (WS_o0 g σ2) rfl 11 (by decide) (hts _ gw176) (fun _ h9 => h9) rfl d_Sd_judge_16 ?_
        refine lv_if_le (tgt := 30) hx hb d_Sd_judge_19 (by decide) (fun hc => ?_) (fun hc => ?_)
        · replace h := h.1 hc
          exact h.elim
        · replace h := h.2 hc
          exact kt_throw (E := E_is) (ia := 118) (ic := 120) hx hb hown hlocks htr (by decide) hts (Zk_ok g) hZ hst (at_is g A) gw558 gw559 gw22 hout (hl.1.trans hml.symm) (Nat.le_of_ble_eq_true rfl) (Nat.le_of_ble_eq_true rfl) (Nat.le_of_ble_eq_true rfl) (Nat.le_of_ble_eq_true rfl) h d_Sd_judge_22 d_Sd_judge_25 d_Sd_judge_26 d_Sd_judge_29
      · refine va_get (D := D) (ci := 0) (C := R_Tr) (T := T_Tr) (N := 12) hx hb hts in_Tr hown hK hst.1 13 (WS_o13 g σ2) rfl 11 (by decide) (hts _ gw176) (fun _ h9 => h9) rfl d_Sd_judge_16 ?_
        refine lv_if_le (tgt := 30) hx hb d_Sd_judge_19 (by decide) (fun hc => ?_) (fun hc => ?_)
        · replace h := h.1 hc
          exact h.elim
        · replace h := h.2 hc
          exact kt_throw (E := E_is) (ia := 118) (ic := 120) hx hb hown hlocks htr (by decide) hts (Zk_ok g) hZ hst (at_is g A) gw558 gw559 gw22 hout (hl.1.trans hml.symm) (Nat.le_of_ble_eq_true rfl) (Nat.le_of_ble_eq_true rfl) (Nat.le_of_ble_eq_true rfl) (Nat.le_of_ble_eq_true rfl) h d_Sd_judge_22 d_Sd_judge_25 d_Sd_judge_26 d_Sd_judge_29
set_option maxRecDepth 100000 in
set_option maxHeartbeats 4000000 in
theorem c_Sd_judge_is (l : Launch) {D : va_G} {g : Gm} (htr : l.stackTraces = false) {sz : Nat} {σ : Sg} {post : Sg → Prop} (h : wq_Sd_judge_is σ post) : MetT l y_Sd_judge (.code y_Sd_judge k_Sd_judge 1 (some .int) :: GW) { frames := 37, cells := 1, slots := 6, locals := 928 } (PcW D vwCl (WS g) g (Zk g) σ sz [.ref (g.1 51)]) E_is (fun t => ∃ σ1, post σ1 ∧ Bw D vwCl (WS g) (va_A (WS g σ) sz) σ1 t) (va_A (WS g σ) sz) 1 6 := by
  refine kt_entry (own := R_Sd) (by decide) rfl rfl (Nat.le_of_ble_eq_true rfl) ?_
  intro p e s m below meth c ls hsz C hout hl hst
  exact b_Sd_judge_is_0 C htr hout σ _ _ ls hl hst h
def wq_Sd_judge_uo (σ : Sg) (post : Sg → Prop) : Prop := (wq_Sd_readTree (0 : Int32) σ (fun r1 σ1 => (r1 = 0 ∨ r1 = 13) ∧ ((0 < (σ1.1 r1 11) → False) ∧ (¬ 0 < (σ1.1 r1 11) → (wq_Sd_readTree (1 : Int32) σ1 (fun r2 σ2 => (r2 = 0 ∨ r2 = 13) ∧ (((σ2.1 r2 11) ≤ 0 → (wq_Pl_refresh  σ2 (fun σ3 => (((σ3.1 29 7) = 0 → False) ∧ (¬ (σ3.1 29 7) = 0 → post σ3))))) ∧ (¬ (σ2.1 r2 11) ≤ 0 → False))))))))
set_option maxRecDepth 100000 in
set_option maxHeartbeats 4000000 in
theorem b_Sd_judge_uo_0 {p : Program} {l : Launch} {e : Env} {s : State} {m : MethodId} {args : Array Value} {below : List Frame} {meth : Method} {c : Code} {D : va_G} {g : Gm} {A : Nat → Prop} {post : Sg → Prop} (C : kC p s m args meth c k_Sd_judge 1 (some .int) GW R_Sd D vwCl g (Zk g) A) (htr : l.stackTraces = false) (hout : c.exceptionTable.isEmpty = true) (σ : Sg) (H : Heap) (locs : List Loc) (ls : Array Slot) (hl : lv_has ls 1 [(0, .ref (g.1 51))]) (hst : Wst D vwCl (WS g) A s σ H locs) (h : wq_Sd_judge_uo  σ post) : W p l e { frames := 37, cells := 1, slots := 6, locals := 928 } s m args below meth c H locs 0 0 (MQT below E_uo (fun t => ∃ σ1, post σ1 ∧ Bw D vwCl (WS g) A σ1 t) A s 1 6) (F0 m 0 ls []) := by
  obtain ⟨hx, hb, hr, hml, hown, hts, hlocks, hK, hZ, hA⟩ := C
  unfold wq_Sd_judge_uo at h
  refine lv_aload_n hx hb d_Sd_judge_0 rfl (lv_at hl 0 rfl) ?_
  refine lv_iconst (v := (0 : Int32)) hx hb d_Sd_judge_1 (by decide) ?_
  refine kw_callr (va_runV (As := [.int (0 : Int32)]) (rest := []) (b := g.1 51) ⟨hx, hb, hml, hown, hts⟩ (c_Sd_readTree l (0 : Int32) h) (cwV 1 hts (gd_v gw605 gw607 gs3 gw1 gw608) rfl rfl rfl (by decide +kernel) ⟨Nat.le_of_ble_eq_true rfl, Nat.le_of_ble_eq_true rfl⟩) ⟨kw_blind (Zk_ok g), va_recv hK hst.1 rfl (WS_o51 g σ), kw_pre (Zk_ok g) hK hZ hA hst⟩ rfl rfl hl.1 rfl (lv_room (Nat.le_of_ble_eq_true rfl)) d_Sd_judge_2 ⟨Nat.le_of_ble_eq_true rfl, Nat.le_of_ble_eq_true rfl⟩) hst hA (fun r1 σ1 H locs h hst => ?_)
  obtain ⟨hb1, h⟩ := h
  rcases hb1 with rfl | rfl
  · refine va_get (D := D) (ci := 0) (C := R_Tr) (T := T_Tr) (N := 12) hx hb hts in_Tr hown hK hst.1 0 (WS_o0 g σ1) rfl 11 (by decide) (hts _ gw176) (fun _ h9 => h9) rfl d_Sd_judge_5 ?_
    refine lv_if_gt (tgt := 22) hx hb d_Sd_judge_8 (by decide) (fun hc => ?_) (fun hc => ?_)
    · replace h := h.1 hc
      exact h.elim
    · replace h := h.2 hc
      refine lv_aload_n hx hb d_Sd_judge_11 rfl (lv_at hl 0 rfl) ?_
      refine lv_iconst (v := (1 : Int32)) hx hb d_Sd_judge_12 (by decide) ?_
      refine kw_callr (va_runV (As := [.int (1 : Int32)]) (rest := []) (b := g.1 51) ⟨hx, hb, hml, hown, hts⟩ (c_Sd_readTree l (1 : Int32) h) (cwV 1 hts (gd_v gw605 gw607 gs3 gw1 gw608) rfl rfl rfl (by decide +kernel) ⟨Nat.le_of_ble_eq_true rfl, Nat.le_of_ble_eq_true rfl⟩) ⟨kw_blind (Zk_ok g), va_recv hK hst.1 rfl (WS_o51 g σ1), kw_pre (Zk_ok g) hK hZ hA hst⟩ rfl rfl hl.1 rfl (lv_room (Nat.le_of_ble_eq_true rfl)) d_Sd_judge_13 ⟨Nat.le_of_ble_eq_true rfl, Nat.le_of_ble_eq_true rfl⟩) hst hA (fun r2 σ2 H locs h hst => ?_)
      obtain ⟨hb1, h⟩ := h
      rcases hb1 with rfl | rfl
      · refine va_get (D := D) (ci := 0) (C := R_Tr) (T := T_Tr) (N := 12) hx hb hts in_Tr hown hK hst.1 0 (WS_o0 g σ2) rfl 11 (by decide) (hts _ gw176) (fun _ h9 => h9) rfl d_Sd_judge_16 ?_
        refine lv_if_le (tgt := 30) hx hb d_Sd_judge_19 (by decide) (fun hc => ?_) (fun hc => ?_)
        · replace h := h.1 hc
          refine lv_aload_n hx hb d_Sd_judge_30 rfl (lv_at hl 0 rfl) ?_
          refine va_get (D := D) (ci := 9) (C := R_Sd) (T := T_Sd) (N := 9) hx hb hts in_Sd hown hK hst.1 51 (WS_o51 g σ2) rfl 5 (by decide) (hts _ gw404) (fun _ h9 => h9) rfl d_Sd_judge_31 ?_
          refine kw_callv (va_runV (As := []) (rest := []) (b := g.1 29) ⟨hx, hb, hml, hown, hts⟩ (c_Pl_refresh l h) (cwV 0 hts (gd_v gw742 gw743 gw744 gw10 gw745) rfl rfl rfl (by decide +kernel) ⟨Nat.le_of_ble_eq_true rfl, Nat.le_of_ble_eq_true rfl⟩) ⟨kw_blind (Zk_ok g), va_recv hK hst.1 rfl (WS_o29 g σ2), kw_pre (Zk_ok g) hK hZ hA hst⟩ rfl rfl hl.1 rfl (lv_room (Nat.le_of_ble_eq_true rfl)) d_Sd_judge_34 ⟨Nat.le_of_ble_eq_true rfl, Nat.le_of_ble_eq_true rfl⟩) hst hA (fun σ3 H locs h hst => ?_)
          refine lv_aload_n hx hb d_Sd_judge_37 rfl (lv_at hl 0 rfl) ?_
          refine va_get (D := D) (ci := 9) (C := R_Sd) (T := T_Sd) (N := 9) hx hb hts in_Sd hown hK hst.1 51 (WS_o51 g σ3) rfl 5 (by decide) (hts _ gw404) (fun _ h9 => h9) rfl d_Sd_judge_38 ?_
          refine va_get (D := D) (ci := 5) (C := R_Pl) (T := T_Pl) (N := 10) hx hb hts in_Pl hown hK hst.1 29 (WS_o29 g σ3) rfl 7 (by decide) (hts _ gw256) (fun _ h9 => h9) rfl d_Sd_judge_41 ?_
          refine lv_if_eq (tgt := 55) hx hb d_Sd_judge_44 (by decide) (fun hc => ?_) (fun hc => ?_)
          · replace h := h.1 hc
            exact h.elim
          · replace h := h.2 hc
            exact kt_throw (E := E_uo) (ia := 175) (ic := 177) hx hb hown hlocks htr (by decide) hts (Zk_ok g) hZ hst (at_uo g A) gw781 gw782 gw24 hout (hl.1.trans hml.symm) (Nat.le_of_ble_eq_true rfl) (Nat.le_of_ble_eq_true rfl) (Nat.le_of_ble_eq_true rfl) (Nat.le_of_ble_eq_true rfl) h d_Sd_judge_47 d_Sd_judge_50 d_Sd_judge_51 d_Sd_judge_54
        · replace h := h.2 hc
          exact h.elim
      · refine va_get (D := D) (ci := 0) (C := R_Tr) (T := T_Tr) (N := 12) hx hb hts in_Tr hown hK hst.1 13 (WS_o13 g σ2) rfl 11 (by decide) (hts _ gw176) (fun _ h9 => h9) rfl d_Sd_judge_16 ?_
        refine lv_if_le (tgt := 30) hx hb d_Sd_judge_19 (by decide) (fun hc => ?_) (fun hc => ?_)
        · replace h := h.1 hc
          refine lv_aload_n hx hb d_Sd_judge_30 rfl (lv_at hl 0 rfl) ?_
          refine va_get (D := D) (ci := 9) (C := R_Sd) (T := T_Sd) (N := 9) hx hb hts in_Sd hown hK hst.1 51 (WS_o51 g σ2) rfl 5 (by decide) (hts _ gw404) (fun _ h9 => h9) rfl d_Sd_judge_31 ?_
          refine kw_callv (va_runV (As := []) (rest := []) (b := g.1 29) ⟨hx, hb, hml, hown, hts⟩ (c_Pl_refresh l h) (cwV 0 hts (gd_v gw742 gw743 gw744 gw10 gw745) rfl rfl rfl (by decide +kernel) ⟨Nat.le_of_ble_eq_true rfl, Nat.le_of_ble_eq_true rfl⟩) ⟨kw_blind (Zk_ok g), va_recv hK hst.1 rfl (WS_o29 g σ2), kw_pre (Zk_ok g) hK hZ hA hst⟩ rfl rfl hl.1 rfl (lv_room (Nat.le_of_ble_eq_true rfl)) d_Sd_judge_34 ⟨Nat.le_of_ble_eq_true rfl, Nat.le_of_ble_eq_true rfl⟩) hst hA (fun σ3 H locs h hst => ?_)
          refine lv_aload_n hx hb d_Sd_judge_37 rfl (lv_at hl 0 rfl) ?_
          refine va_get (D := D) (ci := 9) (C := R_Sd) (T := T_Sd) (N := 9) hx hb hts in_Sd hown hK hst.1 51 (WS_o51 g σ3) rfl 5 (by decide) (hts _ gw404) (fun _ h9 => h9) rfl d_Sd_judge_38 ?_
          refine va_get (D := D) (ci := 5) (C := R_Pl) (T := T_Pl) (N := 10) hx hb hts in_Pl hown hK hst.1 29 (WS_o29 g σ3) rfl 7 (by decide) (hts _ gw256) (fun _ h9 => h9) rfl d_Sd_judge_41 ?_
          refine lv_if_eq (tgt := 55) hx hb d_Sd_judge_44 (by decide) (fun hc => ?_) (fun hc => ?_)
          · replace h := h.1 hc
            exact h.elim
          · replace h := h.2 hc
            exact kt_throw (E := E_uo) (ia := 175) (ic := 177) hx hb hown hlocks htr (by decide) hts (Zk_ok g) hZ hst (at_uo g A) gw781 gw782 gw24 hout (hl.1.trans hml.symm) (Nat.le_of_ble_eq_true rfl) (Nat.le_of_ble_eq_true rfl) (Nat.le_of_ble_eq_true rfl) (Nat.le_of_ble_eq_true rfl) h d_Sd_judge_47 d_Sd_judge_50 d_Sd_judge_51 d_Sd_judge_54
        · replace h := h.2 hc
          exact h.elim
  · refine va_get (D := D) (ci := 0) (C := R_Tr) (T := T_Tr) (N := 12) hx hb hts in_Tr hown hK hst.1 13 (WS_o13 g σ1) rfl 11 (by decide) (hts _ gw176) (fun _ h9 => h9) rfl d_Sd_judge_5 ?_
    refine lv_if_gt (tgt := 22) hx hb d_Sd_judge_8 (by decide) (fun hc => ?_) (fun hc => ?_)
    · replace h := h.1 hc
      exact h.elim
    · replace h := h.2 hc
      refine lv_aload_n hx hb d_Sd_judge_11 rfl (lv_at hl 0 rfl) ?_
      refine lv_iconst (v := (1 : Int32)) hx hb d_Sd_judge_12 (by decide) ?_
      refine kw_callr (va_runV (As := [.int (1 : Int32)]) (rest := []) (b := g.1 51) ⟨hx, hb, hml, hown, hts⟩ (c_Sd_readTree l (1 : Int32) h) (cwV 1 hts (gd_v gw605 gw607 gs3 gw1 gw608) rfl rfl rfl (by decide +kernel) ⟨Nat.le_of_ble_eq_true rfl, Nat.le_of_ble_eq_true rfl⟩) ⟨kw_blind (Zk_ok g), va_recv hK hst.1 rfl (WS_o51 g σ1), kw_pre (Zk_ok g) hK hZ hA hst⟩ rfl rfl hl.1 rfl (lv_room (Nat.le_of_ble_eq_true rfl)) d_Sd_judge_13 ⟨Nat.le_of_ble_eq_true rfl, Nat.le_of_ble_eq_true rfl⟩) hst hA (fun r2 σ2 H locs h hst => ?_)
      obtain ⟨hb1, h⟩ := h
      rcases hb1 with rfl | rfl
      · refine va_get (D := D) (ci := 0) (C := R_Tr) (T := T_Tr) (N := 12) hx hb hts in_Tr hown hK hst.1 0 (WS_o0 g σ2) rfl 11 (by decide) (hts _ gw176) (fun _ h9 => h9) rfl d_Sd_judge_16 ?_
        refine lv_if_le (tgt := 30) hx hb d_Sd_judge_19 (by decide) (fun hc => ?_) (fun hc => ?_)
        · replace h := h.1 hc
          refine lv_aload_n hx hb d_Sd_judge_30 rfl (lv_at hl 0 rfl) ?_
          refine va_get (D := D) (ci := 9) (C := R_Sd) (T := T_Sd) (N := 9) hx hb hts in_Sd hown hK hst.1 51 (WS_o51 g σ2) rfl 5 (by decide) (hts _ gw404) (fun _ h9 => h9) rfl d_Sd_judge_31 ?_
          refine kw_callv (va_runV (As := []) (rest := []) (b := g.1 29) ⟨hx, hb, hml, hown, hts⟩ (c_Pl_refresh l h) (cwV 0 hts (gd_v gw742 gw743 gw744 gw10 gw745) rfl rfl rfl (by decide +kernel) ⟨Nat.le_of_ble_eq_true rfl, Nat.le_of_ble_eq_true rfl⟩) ⟨kw_blind (Zk_ok g), va_recv hK hst.1 rfl (WS_o29 g σ2), kw_pre (Zk_ok g) hK hZ hA hst⟩ rfl rfl hl.1 rfl (lv_room (Nat.le_of_ble_eq_true rfl)) d_Sd_judge_34 ⟨Nat.le_of_ble_eq_true rfl, Nat.le_of_ble_eq_true rfl⟩) hst hA (fun σ3 H locs h hst => ?_)
          refine lv_aload_n hx hb d_Sd_judge_37 rfl (lv_at hl 0 rfl) ?_
          refine va_get (D := D) (ci := 9) (C := R_Sd) (T := T_Sd) (N := 9) hx hb hts in_Sd hown hK hst.1 51 (WS_o51 g σ3) rfl 5 (by decide) (hts _ gw404) (fun _ h9 => h9) rfl d_Sd_judge_38 ?_
          refine va_get (D := D) (ci := 5) (C := R_Pl) (T := T_Pl) (N := 10) hx hb hts in_Pl hown hK hst.1 29 (WS_o29 g σ3) rfl 7 (by decide) (hts _ gw256) (fun _ h9 => h9) rfl d_Sd_judge_41 ?_
          refine lv_if_eq (tgt := 55) hx hb d_Sd_judge_44 (by decide) (fun hc => ?_) (fun hc => ?_)
          · replace h := h.1 hc
            exact h.elim
          · replace h := h.2 hc
            exact kt_throw (E := E_uo) (ia := 175) (ic := 177) hx hb hown hlocks htr (by decide) hts (Zk_ok g) hZ hst (at_uo g A) gw781 gw782 gw24 hout (hl.1.trans hml.symm) (Nat.le_of_ble_eq_true rfl) (Nat.le_of_ble_eq_true rfl) (Nat.le_of_ble_eq_true rfl) (Nat.le_of_ble_eq_true rfl) h d_Sd_judge_47 d_Sd_judge_50 d_Sd_judge_51 d_Sd_judge_54
        · replace h := h.2 hc
          exact h.elim
      · refine va_get (D := D) (ci := 0) (C := R_Tr) (T := T_Tr) (N := 12) hx hb hts in_Tr hown hK hst.1 13 (WS_o13 g σ2) rfl 11 (by decide) (hts _ gw176) (fun _ h9 => h9) rfl d_Sd_judge_16 ?_
        refine lv_if_le (tgt := 30) hx hb d_Sd_judge_19 (by decide) (fun hc => ?_) (fun hc => ?_)
        · replace h := h.1 hc
          refine lv_aload_n hx hb d_Sd_judge_30 rfl (lv_at hl 0 rfl) ?_
          refine va_get (D := D) (ci := 9) (C := R_Sd) (T := T_Sd) (N := 9) hx hb hts in_Sd hown hK hst.1 51 (WS_o51 g σ2) rfl 5 (by decide) (hts _ gw404) (fun _ h9 => h9) rfl d_Sd_judge_31 ?_
          refine kw_callv (va_runV (As := []) (rest := []) (b := g.1 29) ⟨hx, hb, hml, hown, hts⟩ (c_Pl_refresh l h) (cwV 0 hts (gd_v gw742 gw743 gw744 gw10 gw745) rfl rfl rfl (by decide +kernel) ⟨Nat.le_of_ble_eq_true rfl, Nat.le_of_ble_eq_true rfl⟩) ⟨kw_blind (Zk_ok g), va_recv hK hst.1 rfl (WS_o29 g σ2), kw_pre (Zk_ok g) hK hZ hA hst⟩ rfl rfl hl.1 rfl (lv_room (Nat.le_of_ble_eq_true rfl)) d_Sd_judge_34 ⟨Nat.le_of_ble_eq_true rfl, Nat.le_of_ble_eq_true rfl⟩) hst hA (fun σ3 H locs h hst => ?_)
          refine lv_aload_n hx hb d_Sd_judge_37 rfl (lv_at hl 0 rfl) ?_
          refine va_get (D := D) (ci := 9) (C := R_Sd) (T := T_Sd) (N := 9) hx hb hts in_Sd hown hK hst.1 51 (WS_o51 g σ3) rfl 5 (by decide) (hts _ gw404) (fun _ h9 => h9) rfl d_Sd_judge_38 ?_
          refine va_get (D := D) (ci := 5) (C := R_Pl) (T := T_Pl) (N := 10) hx hb hts in_Pl hown hK hst.1 29 (WS_o29 g σ3) rfl 7 (by decide) (hts _ gw256) (fun _ h9 => h9) rfl d_Sd_judge_41 ?_
          refine lv_if_eq (tgt := 55) hx hb d_Sd_judge_44 (by decide) (fun hc => ?_) (fun hc => ?_)
          · replace h := h.1 hc
            exact h.elim
          · replace h := h.2 hc
            exact kt_throw (E := E_uo) (ia := 175) (ic := 177) hx hb hown hlocks htr (by decide) hts (Zk_ok g) hZ hst (at_uo g A) gw781 gw782 gw24 hout (hl.1.trans hml.symm) (Nat.le_of_ble_eq_true rfl) (Nat.le_of_ble_eq_true rfl) (Nat.le_of_ble_eq_true rfl) (Nat.le_of_ble_eq_true rfl) h d_Sd_judge_47 d_Sd_judge_50 d_Sd_judge_51 d_Sd_judge_54
        · replace h := h.2 hc
          exact h.elim
set_option maxRecDepth 100000 in
set_option maxHeartbeats 4000000 in
theorem c_Sd_judge_uo (l : Launch) {D : va_G} {g : Gm} (htr : l.stackTraces = false) {sz : Nat} {σ : Sg} {post : Sg → Prop} (h : wq_Sd_judge_uo σ post) : MetT l y_Sd_judge (.code y_Sd_judge k_Sd_judge 1 (some .int) :: GW) { frames := 37, cells := 1, slots := 6, locals := 928 } (PcW D vwCl (WS g) g (Zk g) σ sz [.ref (g.1 51)]) E_uo (fun t => ∃ σ1, post σ1 ∧ Bw D vwCl (WS g) (va_A (WS g σ) sz) σ1 t) (va_A (WS g σ) sz) 1 6 := by
  refine kt_entry (own := R_Sd) (by decide) rfl rfl (Nat.le_of_ble_eq_true rfl) ?_
  intro p e s m below meth c ls hsz C hout hl hst
  exact b_Sd_judge_uo_0 C htr hout σ _ _ ls hl hst h
def wq_Sd_diagnostic_ia (x1 : Int32) (x2 : Int32) (σ : Sg) (post : Sg → Prop) : Prop := ((x2 < 0 → post σ) ∧ (¬ x2 < 0 → ((x2 ≤ (2 : Int32) → False) ∧ (¬ x2 ≤ (2 : Int32) → post σ))))
set_option maxRecDepth 100000 in
set_option maxHeartbeats 4000000 in
theorem b_Sd_diagnostic_ia_0 {p : Program} {l : Launch} {e : Env} {s : State} {m : MethodId} {args : Array Value} {below : List Frame} {meth : Method} {c : Code} {D : va_G} {g : Gm} {A : Nat → Prop} {post : Sg → Prop} (C : kC p s m args meth c k_Sd_diagnostic 3 (some .int) GW R_Sd D vwCl g (Zk g) A) (htr : l.stackTraces = false) (hout : c.exceptionTable.isEmpty = true) (x1 : Int32) (x2 : Int32) (σ : Sg) (H : Heap) (locs : List Loc) (ls : Array Slot) (hl : lv_has ls 3 [(0, .ref (g.1 51)), (1, .int x1), (2, .int x2)]) (hst : Wst D vwCl (WS g) A s σ H locs) (h : wq_Sd_diagnostic_ia x1 x2 σ post) : W p l e { frames := 6, cells := 1, slots := 6, locals := 100 } s m args below meth c H locs 0 0 (MQT below E_ia (fun t => ∃ σ1, post σ1 ∧ Bw D vwCl (WS g) A σ1 t) A s 1 6) (F0 m 0 ls []) := by
  obtain ⟨hx, hb, hr, hml, hown, hts, hlocks, hK, hZ, hA⟩ := C
  unfold wq_Sd_diagnostic_ia at h
  refine lv_iload_n hx hb d_Sd_diagnostic_0 rfl (lv_at hl 2 rfl) ?_
  refine lv_if_lt (tgt := 9) hx hb d_Sd_diagnostic_1 (by decide) (fun hc => ?_) (fun hc => ?_)
  · replace h := h.1 hc
    exact kt_throw (E := E_ia) (ia := 112) (ic := 114) hx hb hown hlocks htr (by decide) hts (Zk_ok g) hZ hst (at_ia g A) gw478 gw479 gw20 hout (hl.1.trans hml.symm) (Nat.le_of_ble_eq_true rfl) (Nat.le_of_ble_eq_true rfl) (Nat.le_of_ble_eq_true rfl) (Nat.le_of_ble_eq_true rfl) h d_Sd_diagnostic_9 d_Sd_diagnostic_12 d_Sd_diagnostic_13 d_Sd_diagnostic_16
  · replace h := h.2 hc
    refine lv_iload_n hx hb d_Sd_diagnostic_4 rfl (lv_at hl 2 rfl) ?_
    refine lv_iconst (v := (2 : Int32)) hx hb d_Sd_diagnostic_5 (by decide) ?_
    refine lv_icmp_le (tgt := 17) hx hb d_Sd_diagnostic_6 (by decide) (fun hc => ?_) (fun hc => ?_)
    · replace h := h.1 hc
      exact h.elim
    · replace h := h.2 hc
      exact kt_throw (E := E_ia) (ia := 112) (ic := 114) hx hb hown hlocks htr (by decide) hts (Zk_ok g) hZ hst (at_ia g A) gw478 gw479 gw20 hout (hl.1.trans hml.symm) (Nat.le_of_ble_eq_true rfl) (Nat.le_of_ble_eq_true rfl) (Nat.le_of_ble_eq_true rfl) (Nat.le_of_ble_eq_true rfl) h d_Sd_diagnostic_9 d_Sd_diagnostic_12 d_Sd_diagnostic_13 d_Sd_diagnostic_16
set_option maxRecDepth 100000 in
set_option maxHeartbeats 4000000 in
theorem c_Sd_diagnostic_ia (l : Launch) {D : va_G} {g : Gm} (htr : l.stackTraces = false) {sz : Nat} (x1 : Int32) (x2 : Int32) {σ : Sg} {post : Sg → Prop} (h : wq_Sd_diagnostic_ia x1 x2 σ post) : MetT l y_Sd_diagnostic (.code y_Sd_diagnostic k_Sd_diagnostic 3 (some .int) :: GW) { frames := 6, cells := 1, slots := 6, locals := 100 } (PcW D vwCl (WS g) g (Zk g) σ sz [.ref (g.1 51), .int x1, .int x2]) E_ia (fun t => ∃ σ1, post σ1 ∧ Bw D vwCl (WS g) (va_A (WS g σ) sz) σ1 t) (va_A (WS g σ) sz) 1 6 := by
  refine kt_entry (own := R_Sd) (by decide) rfl rfl (Nat.le_of_ble_eq_true rfl) ?_
  intro p e s m below meth c ls hsz C hout hl hst
  exact b_Sd_diagnostic_ia_0 C htr hout x1 x2 σ _ _ ls hl hst h
def wq_Sd_diagnostic_ns (x1 : Int32) (x2 : Int32) (σ : Sg) (post : Sg → Prop) : Prop := ((x2 < 0 → False) ∧ (¬ x2 < 0 → ((x2 ≤ (2 : Int32) → ((x1 < 0 → post σ) ∧ (¬ x1 < 0 → ((x1 < (σ.1 40 0) → False) ∧ (¬ x1 < (σ.1 40 0) → post σ))))) ∧ (¬ x2 ≤ (2 : Int32) → False))))
set_option maxRecDepth 100000 in
set_option maxHeartbeats 4000000 in
theorem b_Sd_diagnostic_ns_0 {p : Program} {l : Launch} {e : Env} {s : State} {m : MethodId} {args : Array Value} {below : List Frame} {meth : Method} {c : Code} {D : va_G} {g : Gm} {A : Nat → Prop} {post : Sg → Prop} (C : kC p s m args meth c k_Sd_diagnostic 3 (some .int) GW R_Sd D vwCl g (Zk g) A) (htr : l.stackTraces = false) (hout : c.exceptionTable.isEmpty = true) (x1 : Int32) (x2 : Int32) (σ : Sg) (H : Heap) (locs : List Loc) (ls : Array Slot) (hl : lv_has ls 3 [(0, .ref (g.1 51)), (1, .int x1), (2, .int x2)]) (hst : Wst D vwCl (WS g) A s σ H locs) (h : wq_Sd_diagnostic_ns x1 x2 σ post) : W p l e { frames := 6, cells := 1, slots := 6, locals := 100 } s m args below meth c H locs 0 0 (MQT below E_ns (fun t => ∃ σ1, post σ1 ∧ Bw D vwCl (WS g) A σ1 t) A s 1 6) (F0 m 0 ls []) := by
  obtain ⟨hx, hb, hr, hml, hown, hts, hlocks, hK, hZ, hA⟩ := C
  unfold wq_Sd_diagnostic_ns at h
  refine lv_iload_n hx hb d_Sd_diagnostic_0 rfl (lv_at hl 2 rfl) ?_
  refine lv_if_lt (tgt := 9) hx hb d_Sd_diagnostic_1 (by decide) (fun hc => ?_) (fun hc => ?_)
  · replace h := h.1 hc
    exact h.elim
  · replace h := h.2 hc
    refine lv_iload_n hx hb d_Sd_diagnostic_4 rfl (lv_at hl 2 rfl) ?_
    refine lv_iconst (v := (2 : Int32)) hx hb d_Sd_diagnostic_5 (by decide) ?_
    refine lv_icmp_le (tgt := 17) hx hb d_Sd_diagnostic_6 (by decide) (fun hc => ?_) (fun hc => ?_)
    · replace h := h.1 hc
      refine lv_iload_n hx hb d_Sd_diagnostic_17 rfl (lv_at hl 1 rfl) ?_
      refine lv_if_lt (tgt := 32) hx hb d_Sd_diagnostic_18 (by decide) (fun hc => ?_) (fun hc => ?_)
      · replace h := h.1 hc
        exact kt_throw (E := E_ns) (ia := 137) (ic := 139) hx hb hown hlocks htr (by decide) hts (Zk_ok g) hZ hst (at_ns g A) gw705 gw706 gw23 hout (hl.1.trans hml.symm) (Nat.le_of_ble_eq_true rfl) (Nat.le_of_ble_eq_true rfl) (Nat.le_of_ble_eq_true rfl) (Nat.le_of_ble_eq_true rfl) h d_Sd_diagnostic_32 d_Sd_diagnostic_35 d_Sd_diagnostic_36 d_Sd_diagnostic_39
      · replace h := h.2 hc
        refine lv_iload_n hx hb d_Sd_diagnostic_21 rfl (lv_at hl 1 rfl) ?_
        refine lv_aload_n hx hb d_Sd_diagnostic_22 rfl (lv_at hl 0 rfl) ?_
        refine va_get (D := D) (ci := 9) (C := R_Sd) (T := T_Sd) (N := 9) hx hb hts in_Sd hown hK hst.1 51 (WS_o51 g σ) rfl 7 (by decide) (hts _ gw406) (fun _ h9 => h9) rfl d_Sd_diagnostic_23 ?_
        refine va_get (D := D) (ci := 7) (C := R_Rp) (T := T_Rp) (N := 8) hx hb hts in_Rp hown hK hst.1 40 (WS_o40 g σ) rfl 0 (by decide) (hts _ gw334) (fun _ h9 => h9) rfl d_Sd_diagnostic_26 ?_
        refine lv_icmp_lt (tgt := 40) hx hb d_Sd_diagnostic_29 (by decide) (fun hc => ?_) (fun hc => ?_)
        · replace h := h.1 hc
          exact h.elim
        · replace h := h.2 hc
          exact kt_throw (E := E_ns) (ia := 137) (ic := 139) hx hb hown hlocks htr (by decide) hts (Zk_ok g) hZ hst (at_ns g A) gw705 gw706 gw23 hout (hl.1.trans hml.symm) (Nat.le_of_ble_eq_true rfl) (Nat.le_of_ble_eq_true rfl) (Nat.le_of_ble_eq_true rfl) (Nat.le_of_ble_eq_true rfl) h d_Sd_diagnostic_32 d_Sd_diagnostic_35 d_Sd_diagnostic_36 d_Sd_diagnostic_39
    · replace h := h.2 hc
      exact h.elim
set_option maxRecDepth 100000 in
set_option maxHeartbeats 4000000 in
theorem c_Sd_diagnostic_ns (l : Launch) {D : va_G} {g : Gm} (htr : l.stackTraces = false) {sz : Nat} (x1 : Int32) (x2 : Int32) {σ : Sg} {post : Sg → Prop} (h : wq_Sd_diagnostic_ns x1 x2 σ post) : MetT l y_Sd_diagnostic (.code y_Sd_diagnostic k_Sd_diagnostic 3 (some .int) :: GW) { frames := 6, cells := 1, slots := 6, locals := 100 } (PcW D vwCl (WS g) g (Zk g) σ sz [.ref (g.1 51), .int x1, .int x2]) E_ns (fun t => ∃ σ1, post σ1 ∧ Bw D vwCl (WS g) (va_A (WS g σ) sz) σ1 t) (va_A (WS g σ) sz) 1 6 := by
  refine kt_entry (own := R_Sd) (by decide) rfl rfl (Nat.le_of_ble_eq_true rfl) ?_
  intro p e s m below meth c ls hsz C hout hl hst
  exact b_Sd_diagnostic_ns_0 C htr hout x1 x2 σ _ _ ls hl hst h
def wq_Sd_propose_ns (x1 : Int32) (σ : Sg) (post : Sg → Prop) : Prop := (wq_Sd_readTree (1 : Int32) σ (fun r1 σ1 => (r1 = 0 ∨ r1 = 13) ∧ (wq_Sd_readTree (0 : Int32) σ1 (fun r2 σ2 => (r2 = 0 ∨ r2 = 13) ∧ (wq_Tr_has 13 x1 σ2 (fun r3 σ3 => ((r3 = 0 → post σ3) ∧ (¬ r3 = 0 → (vp_in x1 80 ∧ ((¬ (σ3.1 14 x1.toNatClampNeg) = (6 : Int32) → post σ3) ∧ ((σ3.1 14 x1.toNatClampNeg) = (6 : Int32) → ((¬ (σ3.1 0 9) = 0 → False) ∧ ((σ3.1 0 9) = 0 → post σ3)))))))))))))
set_option maxRecDepth 100000 in
set_option maxHeartbeats 4000000 in
theorem b_Sd_propose_ns_0 {p : Program} {l : Launch} {e : Env} {s : State} {m : MethodId} {args : Array Value} {below : List Frame} {meth : Method} {c : Code} {D : va_G} {g : Gm} {A : Nat → Prop} {post : Sg → Prop} (C : kC p s m args meth c k_Sd_propose 2 (some .int) GW R_Sd D vwCl g (Zk g) A) (htr : l.stackTraces = false) (hout : c.exceptionTable.isEmpty = true) (x1 : Int32) (σ : Sg) (H : Heap) (locs : List Loc) (ls : Array Slot) (hl : lv_has ls 2 [(0, .ref (g.1 51)), (1, .int x1)]) (hst : Wst D vwCl (WS g) A s σ H locs) (h : wq_Sd_propose_ns x1 σ post) : W p l e { frames := 37, cells := 1, slots := 6, locals := 928 } s m args below meth c H locs 0 0 (MQT below E_ns (fun t => ∃ σ1, post σ1 ∧ Bw D vwCl (WS g) A σ1 t) A s 1 6) (F0 m 0 ls []) := by
  obtain ⟨hx, hb, hr, hml, hown, hts, hlocks, hK, hZ, hA⟩ := C
  unfold wq_Sd_propose_ns at h
  refine lv_aload_n hx hb d_Sd_propose_0 rfl (lv_at hl 0 rfl) ?_
  refine lv_iconst (v := (1 : Int32)) hx hb d_Sd_propose_1 (by decide) ?_
  refine kw_callr (va_runV (As := [.int (1 : Int32)]) (rest := []) (b := g.1 51) ⟨hx, hb, hml, hown, hts⟩ (c_Sd_readTree l (1 : Int32) h) (cwV 1 hts (gd_v gw605 gw607 gs3 gw1 gw608) rfl rfl rfl (by decide +kernel) ⟨Nat.le_of_ble_eq_true rfl, Nat.le_of_ble_eq_true rfl⟩) ⟨kw_blind (Zk_ok g), va_recv hK hst.1 rfl (WS_o51 g σ), kw_pre (Zk_ok g) hK hZ hA hst⟩ rfl rfl hl.1 rfl (lv_room (Nat.le_of_ble_eq_true rfl)) d_Sd_propose_2 ⟨Nat.le_of_ble_eq_true rfl, Nat.le_of_ble_eq_true rfl⟩) hst hA (fun r1 σ1 H locs h hst => ?_)
  obtain ⟨hb1, h⟩ := h
  rcases hb1 with rfl | rfl
  · refine lv_pop hx hb d_Sd_propose_5 rfl ?_
    refine lv_aload_n hx hb d_Sd_propose_6 rfl (lv_at hl 0 rfl) ?_
    refine lv_iconst (v := (0 : Int32)) hx hb d_Sd_propose_7 (by decide) ?_
    refine kw_callr (va_runV (As := [.int (0 : Int32)]) (rest := []) (b := g.1 51) ⟨hx, hb, hml, hown, hts⟩ (c_Sd_readTree l (0 : Int32) h) (cwV 1 hts (gd_v gw605 gw607 gs3 gw1 gw608) rfl rfl rfl (by decide +kernel) ⟨Nat.le_of_ble_eq_true rfl, Nat.le_of_ble_eq_true rfl⟩) ⟨kw_blind (Zk_ok g), va_recv hK hst.1 rfl (WS_o51 g σ1), kw_pre (Zk_ok g) hK hZ hA hst⟩ rfl rfl hl.1 rfl (lv_room (Nat.le_of_ble_eq_true rfl)) d_Sd_propose_8 ⟨Nat.le_of_ble_eq_true rfl, Nat.le_of_ble_eq_true rfl⟩) hst hA (fun r2 σ2 H locs h hst => ?_)
    obtain ⟨hb1, h⟩ := h
    rcases hb1 with rfl | rfl
    · refine lv_pop hx hb d_Sd_propose_11 rfl ?_
      refine lv_aload_n hx hb d_Sd_propose_12 rfl (lv_at hl 0 rfl) ?_
      refine va_get (D := D) (ci := 9) (C := R_Sd) (T := T_Sd) (N := 9) hx hb hts in_Sd hown hK hst.1 51 (WS_o51 g σ2) rfl 2 (by decide) (hts _ gw401) (fun _ h9 => h9) rfl d_Sd_propose_13 ?_
      refine lv_iload_n hx hb d_Sd_propose_16 rfl (lv_at hl 1 rfl) ?_
      refine kw_calli (va_runV (As := [.int x1]) (rest := []) (b := g.1 13) ⟨hx, hb, hml, hown, hts⟩ (c_Tr_has_13 l x1 h) (cwV 1 hts (gd_v gw701 gw702 gw703 gw7 gw704) rfl rfl rfl (by decide +kernel) ⟨Nat.le_of_ble_eq_true rfl, Nat.le_of_ble_eq_true rfl⟩) ⟨kw_blind (Zk_ok g), va_recv hK hst.1 rfl (WS_o13 g σ2), kw_pre (Zk_ok g) hK hZ hA hst⟩ rfl rfl hl.1 rfl (lv_room (Nat.le_of_ble_eq_true rfl)) d_Sd_propose_17 ⟨Nat.le_of_ble_eq_true rfl, Nat.le_of_ble_eq_true rfl⟩) hst hA (fun r3 σ3 H locs h hst => ?_)
      refine lv_if_eq (tgt := 47) hx hb d_Sd_propose_20 (by decide) (fun hc => ?_) (fun hc => ?_)
      · replace h := h.1 hc
        exact kt_throw (E := E_ns) (ia := 137) (ic := 139) hx hb hown hlocks htr (by decide) hts (Zk_ok g) hZ hst (at_ns g A) gw705 gw706 gw23 hout (hl.1.trans hml.symm) (Nat.le_of_ble_eq_true rfl) (Nat.le_of_ble_eq_true rfl) (Nat.le_of_ble_eq_true rfl) (Nat.le_of_ble_eq_true rfl) h d_Sd_propose_47 d_Sd_propose_50 d_Sd_propose_51 d_Sd_propose_54
      · replace h := h.2 hc
        refine lv_aload_n hx hb d_Sd_propose_23 rfl (lv_at hl 0 rfl) ?_
        refine va_get (D := D) (ci := 9) (C := R_Sd) (T := T_Sd) (N := 9) hx hb hts in_Sd hown hK hst.1 51 (WS_o51 g σ3) rfl 2 (by decide) (hts _ gw401) (fun _ h9 => h9) rfl d_Sd_propose_24 ?_
        refine va_get (D := D) (ci := 0) (C := R_Tr) (T := T_Tr) (N := 12) hx hb hts in_Tr hown hK hst.1 13 (WS_o13 g σ3) rfl 1 (by decide) (hts _ gw136) (fun _ h9 => h9) rfl d_Sd_propose_27 ?_
        refine lv_iload_n hx hb d_Sd_propose_30 rfl (lv_at hl 1 rfl) ?_
        obtain ⟨hi, h⟩ := h
        refine va_iald hx hb hK hst.1 14 0 (WS_a14 g σ3) rfl hi d_Sd_propose_31 ?_
        refine lv_bipush (v := (6 : Int32)) hx hb d_Sd_propose_32 (by decide) ?_
        refine lv_icmp_ne (tgt := 47) hx hb d_Sd_propose_34 (by decide) (fun hc => ?_) (fun hc => ?_)
        · replace h := h.1 hc
          exact kt_throw (E := E_ns) (ia := 137) (ic := 139) hx hb hown hlocks htr (by decide) hts (Zk_ok g) hZ hst (at_ns g A) gw705 gw706 gw23 hout (hl.1.trans hml.symm) (Nat.le_of_ble_eq_true rfl) (Nat.le_of_ble_eq_true rfl) (Nat.le_of_ble_eq_true rfl) (Nat.le_of_ble_eq_true rfl) h d_Sd_propose_47 d_Sd_propose_50 d_Sd_propose_51 d_Sd_propose_54
        · replace h := h.2 hc
          refine lv_aload_n hx hb d_Sd_propose_37 rfl (lv_at hl 0 rfl) ?_
          refine va_get (D := D) (ci := 9) (C := R_Sd) (T := T_Sd) (N := 9) hx hb hts in_Sd hown hK hst.1 51 (WS_o51 g σ3) rfl 1 (by decide) (hts _ gw400) (fun _ h9 => h9) rfl d_Sd_propose_38 ?_
          refine va_get (D := D) (ci := 0) (C := R_Tr) (T := T_Tr) (N := 12) hx hb hts in_Tr hown hK hst.1 0 (WS_o0 g σ3) rfl 9 (by decide) (hts _ gw172) (fun _ h9 => h9) rfl d_Sd_propose_41 ?_
          refine lv_if_ne (tgt := 55) hx hb d_Sd_propose_44 (by decide) (fun hc => ?_) (fun hc => ?_)
          · replace h := h.1 hc
            exact h.elim
          · replace h := h.2 hc
            exact kt_throw (E := E_ns) (ia := 137) (ic := 139) hx hb hown hlocks htr (by decide) hts (Zk_ok g) hZ hst (at_ns g A) gw705 gw706 gw23 hout (hl.1.trans hml.symm) (Nat.le_of_ble_eq_true rfl) (Nat.le_of_ble_eq_true rfl) (Nat.le_of_ble_eq_true rfl) (Nat.le_of_ble_eq_true rfl) h d_Sd_propose_47 d_Sd_propose_50 d_Sd_propose_51 d_Sd_propose_54
    · refine lv_pop hx hb d_Sd_propose_11 rfl ?_
      refine lv_aload_n hx hb d_Sd_propose_12 rfl (lv_at hl 0 rfl) ?_
      refine va_get (D := D) (ci := 9) (C := R_Sd) (T := T_Sd) (N := 9) hx hb hts in_Sd hown hK hst.1 51 (WS_o51 g σ2) rfl 2 (by decide) (hts _ gw401) (fun _ h9 => h9) rfl d_Sd_propose_13 ?_
      refine lv_iload_n hx hb d_Sd_propose_16 rfl (lv_at hl 1 rfl) ?_
      refine kw_calli (va_runV (As := [.int x1]) (rest := []) (b := g.1 13) ⟨hx, hb, hml, hown, hts⟩ (c_Tr_has_13 l x1 h) (cwV 1 hts (gd_v gw701 gw702 gw703 gw7 gw704) rfl rfl rfl (by decide +kernel) ⟨Nat.le_of_ble_eq_true rfl, Nat.le_of_ble_eq_true rfl⟩) ⟨kw_blind (Zk_ok g), va_recv hK hst.1 rfl (WS_o13 g σ2), kw_pre (Zk_ok g) hK hZ hA hst⟩ rfl rfl hl.1 rfl (lv_room (Nat.le_of_ble_eq_true rfl)) d_Sd_propose_17 ⟨Nat.le_of_ble_eq_true rfl, Nat.le_of_ble_eq_true rfl⟩) hst hA (fun r3 σ3 H locs h hst => ?_)
      refine lv_if_eq (tgt := 47) hx hb d_Sd_propose_20 (by decide) (fun hc => ?_) (fun hc => ?_)
      · replace h := h.1 hc
        exact kt_throw (E := E_ns) (ia := 137) (ic := 139) hx hb hown hlocks htr (by decide) hts (Zk_ok g) hZ hst (at_ns g A) gw705 gw706 gw23 hout (hl.1.trans hml.symm) (Nat.le_of_ble_eq_true rfl) (Nat.le_of_ble_eq_true rfl) (Nat.le_of_ble_eq_true rfl) (Nat.le_of_ble_eq_true rfl) h d_Sd_propose_47 d_Sd_propose_50 d_Sd_propose_51 d_Sd_propose_54
      · replace h := h.2 hc
        refine lv_aload_n hx hb d_Sd_propose_23 rfl (lv_at hl 0 rfl) ?_
        refine va_get (D := D) (ci := 9) (C := R_Sd) (T := T_Sd) (N := 9) hx hb hts in_Sd hown hK hst.1 51 (WS_o51 g σ3) rfl 2 (by decide) (hts _ gw401) (fun _ h9 => h9) rfl d_Sd_propose_24 ?_
        refine va_get (D := D) (ci := 0) (C := R_Tr) (T := T_Tr) (N := 12) hx hb hts in_Tr hown hK hst.1 13 (WS_o13 g σ3) rfl 1 (by decide) (hts _ gw136) (fun _ h9 => h9) rfl d_Sd_propose_27 ?_
        refine lv_iload_n hx hb d_Sd_propose_30 rfl (lv_at hl 1 rfl) ?_
        obtain ⟨hi, h⟩ := h
        refine va_iald hx hb hK hst.1 14 0 (WS_a14 g σ3) rfl hi d_Sd_propose_31 ?_
        refine lv_bipush (v := (6 : Int32)) hx hb d_Sd_propose_32 (by decide) ?_
        refine lv_icmp_ne (tgt := 47) hx hb d_Sd_propose_34 (by decide) (fun hc => ?_) (fun hc => ?_)
        · replace h := h.1 hc
          exact kt_throw (E := E_ns) (ia := 137) (ic := 139) hx hb hown hlocks htr (by decide) hts (Zk_ok g) hZ hst (at_ns g A) gw705 gw706 gw23 hout (hl.1.trans hml.symm) (Nat.le_of_ble_eq_true rfl) (Nat.le_of_ble_eq_true rfl) (Nat.le_of_ble_eq_true rfl) (Nat.le_of_ble_eq_true rfl) h d_Sd_propose_47 d_Sd_propose_50 d_Sd_propose_51 d_Sd_propose_54
        · replace h := h.2 hc
          refine lv_aload_n hx hb d_Sd_propose_37 rfl (lv_at hl 0 rfl) ?_
          refine va_get (D := D) (ci := 9) (C := R_Sd) (T := T_Sd) (N := 9) hx hb hts in_Sd hown hK hst.1 51 (WS_o51 g σ3) rfl 1 (by decide) (hts _ gw400) (fun _ h9 => h9) rfl d_Sd_propose_38 ?_
          refine va_get (D := D) (ci := 0) (C := R_Tr) (T := T_Tr) (N := 12) hx hb hts in_Tr hown hK hst.1 0 (WS_o0 g σ3) rfl 9 (by decide) (hts _ gw172) (fun _ h9 => h9) rfl d_Sd_propose_41 ?_
          refine lv_if_ne (tgt := 55) hx hb d_Sd_propose_44 (by decide) (fun hc => ?_) (fun hc => ?_)
          · replace h := h.1 hc
            exact h.elim
          · replace h := h.2 hc
            exact kt_throw (E := E_ns) (ia := 137) (ic := 139) hx hb hown hlocks htr (by decide) hts (Zk_ok g) hZ hst (at_ns g A) gw705 gw706 gw23 hout (hl.1.trans hml.symm) (Nat.le_of_ble_eq_true rfl) (Nat.le_of_ble_eq_true rfl) (Nat.le_of_ble_eq_true rfl) (Nat.le_of_ble_eq_true rfl) h d_Sd_propose_47 d_Sd_propose_50 d_Sd_propose_51 d_Sd_propose_54
  · refine lv_pop hx hb d_Sd_propose_5 rfl ?_
    refine lv_aload_n hx hb d_Sd_propose_6 rfl (lv_at hl 0 rfl) ?_
    refine lv_iconst (v := (0 : Int32)) hx hb d_Sd_propose_7 (by decide) ?_
    refine kw_callr (va_runV (As := [.int (0 : Int32)]) (rest := []) (b := g.1 51) ⟨hx, hb, hml, hown, hts⟩ (c_Sd_readTree l (0 : Int32) h) (cwV 1 hts (gd_v gw605 gw607 gs3 gw1 gw608) rfl rfl rfl (by decide +kernel) ⟨Nat.le_of_ble_eq_true rfl, Nat.le_of_ble_eq_true rfl⟩) ⟨kw_blind (Zk_ok g), va_recv hK hst.1 rfl (WS_o51 g σ1), kw_pre (Zk_ok g) hK hZ hA hst⟩ rfl rfl hl.1 rfl (lv_room (Nat.le_of_ble_eq_true rfl)) d_Sd_propose_8 ⟨Nat.le_of_ble_eq_true rfl, Nat.le_of_ble_eq_true rfl⟩) hst hA (fun r2 σ2 H locs h hst => ?_)
    obtain ⟨hb1, h⟩ := h
    rcases hb1 with rfl | rfl
    · refine lv_pop hx hb d_Sd_propose_11 rfl ?_
      refine lv_aload_n hx hb d_Sd_propose_12 rfl (lv_at hl 0 rfl) ?_
      refine va_get (D := D) (ci := 9) (C := R_Sd) (T := T_Sd) (N := 9) hx hb hts in_Sd hown hK hst.1 51 (WS_o51 g σ2) rfl 2 (by decide) (hts _ gw401) (fun _ h9 => h9) rfl d_Sd_propose_13 ?_
      refine lv_iload_n hx hb d_Sd_propose_16 rfl (lv_at hl 1 rfl) ?_
      refine kw_calli (va_runV (As := [.int x1]) (rest := []) (b := g.1 13) ⟨hx, hb, hml, hown, hts⟩ (c_Tr_has_13 l x1 h) (cwV 1 hts (gd_v gw701 gw702 gw703 gw7 gw704) rfl rfl rfl (by decide +kernel) ⟨Nat.le_of_ble_eq_true rfl, Nat.le_of_ble_eq_true rfl⟩) ⟨kw_blind (Zk_ok g), va_recv hK hst.1 rfl (WS_o13 g σ2), kw_pre (Zk_ok g) hK hZ hA hst⟩ rfl rfl hl.1 rfl (lv_room (Nat.le_of_ble_eq_true rfl)) d_Sd_propose_17 ⟨Nat.le_of_ble_eq_true rfl, Nat.le_of_ble_eq_true rfl⟩) hst hA (fun r3 σ3 H locs h hst => ?_)
      refine lv_if_eq (tgt := 47) hx hb d_Sd_propose_20 (by decide) (fun hc => ?_) (fun hc => ?_)
      · replace h := h.1 hc
        exact kt_throw (E := E_ns) (ia := 137) (ic := 139) hx hb hown hlocks htr (by decide) hts (Zk_ok g) hZ hst (at_ns g A) gw705 gw706 gw23 hout (hl.1.trans hml.symm) (Nat.le_of_ble_eq_true rfl) (Nat.le_of_ble_eq_true rfl) (Nat.le_of_ble_eq_true rfl) (Nat.le_of_ble_eq_true rfl) h d_Sd_propose_47 d_Sd_propose_50 d_Sd_propose_51 d_Sd_propose_54
      · replace h := h.2 hc
        refine lv_aload_n hx hb d_Sd_propose_23 rfl (lv_at hl 0 rfl) ?_
        refine va_get (D := D) (ci := 9) (C := R_Sd) (T := T_Sd) (N := 9) hx hb hts in_Sd hown hK hst.1 51 (WS_o51 g σ3) rfl 2 (by decide) (hts _ gw401) (fun _ h9 => h9) rfl d_Sd_propose_24 ?_
        refine va_get (D := D) (ci := 0) (C := R_Tr) (T := T_Tr) (N := 12) hx hb hts in_Tr hown hK hst.1 13 (WS_o13 g σ3) rfl 1 (by decide) (hts _ gw136) (fun _ h9 => h9) rfl d_Sd_propose_27 ?_
        refine lv_iload_n hx hb d_Sd_propose_30 rfl (lv_at hl 1 rfl) ?_
        obtain ⟨hi, h⟩ := h
        refine va_iald hx hb hK hst.1 14 0 (WS_a14 g σ3) rfl hi d_Sd_propose_31 ?_
        refine lv_bipush (v := (6 : Int32)) hx hb d_Sd_propose_32 (by decide) ?_
        refine lv_icmp_ne (tgt := 47) hx hb d_Sd_propose_34 (by decide) (fun hc => ?_) (fun hc => ?_)
        · replace h := h.1 hc
          exact kt_throw (E := E_ns) (ia := 137) (ic := 139) hx hb hown hlocks htr (by decide) hts (Zk_ok g) hZ hst (at_ns g A) gw705 gw706 gw23 hout (hl.1.trans hml.symm) (Nat.le_of_ble_eq_true rfl) (Nat.le_of_ble_eq_true rfl) (Nat.le_of_ble_eq_true rfl) (Nat.le_of_ble_eq_true rfl) h d_Sd_propose_47 d_Sd_propose_50 d_Sd_propose_51 d_Sd_propose_54
        · replace h := h.2 hc
          refine lv_aload_n hx hb d_Sd_propose_37 rfl (lv_at hl 0 rfl) ?_
          refine va_get (D := D) (ci := 9) (C := R_Sd) (T := T_Sd) (N := 9) hx hb hts in_Sd hown hK hst.1 51 (WS_o51 g σ3) rfl 1 (by decide) (hts _ gw400) (fun _ h9 => h9) rfl d_Sd_propose_38 ?_
          refine va_get (D := D) (ci := 0) (C := R_Tr) (T := T_Tr) (N := 12) hx hb hts in_Tr hown hK hst.1 0 (WS_o0 g σ3) rfl 9 (by decide) (hts _ gw172) (fun _ h9 => h9) rfl d_Sd_propose_41 ?_
          refine lv_if_ne (tgt := 55) hx hb d_Sd_propose_44 (by decide) (fun hc => ?_) (fun hc => ?_)
          · replace h := h.1 hc
            exact h.elim
          · replace h := h.2 hc
            exact kt_throw (E := E_ns) (ia := 137) (ic := 139) hx hb hown hlocks htr (by decide) hts (Zk_ok g) hZ hst (at_ns g A) gw705 gw706 gw23 hout (hl.1.trans hml.symm) (Nat.le_of_ble_eq_true rfl) (Nat.le_of_ble_eq_true rfl) (Nat.le_of_ble_eq_true rfl) (Nat.le_of_ble_eq_true rfl) h d_Sd_propose_47 d_Sd_propose_50 d_Sd_propose_51 d_Sd_propose_54
    · refine lv_pop hx hb d_Sd_propose_11 rfl ?_
      refine lv_aload_n hx hb d_Sd_propose_12 rfl (lv_at hl 0 rfl) ?_
      refine va_get (D := D) (ci := 9) (C := R_Sd) (T := T_Sd) (N := 9) hx hb hts in_Sd hown hK hst.1 51 (WS_o51 g σ2) rfl 2 (by decide) (hts _ gw401) (fun _ h9 => h9) rfl d_Sd_propose_13 ?_
      refine lv_iload_n hx hb d_Sd_propose_16 rfl (lv_at hl 1 rfl) ?_
      refine kw_calli (va_runV (As := [.int x1]) (rest := []) (b := g.1 13) ⟨hx, hb, hml, hown, hts⟩ (c_Tr_has_13 l x1 h) (cwV 1 hts (gd_v gw701 gw702 gw703 gw7 gw704) rfl rfl rfl (by decide +kernel) ⟨Nat.le_of_ble_eq_true rfl, Nat.le_of_ble_eq_true rfl⟩) ⟨kw_blind (Zk_ok g), va_recv hK hst.1 rfl (WS_o13 g σ2), kw_pre (Zk_ok g) hK hZ hA hst⟩ rfl rfl hl.1 rfl (lv_room (Nat.le_of_ble_eq_true rfl)) d_Sd_propose_17 ⟨Nat.le_of_ble_eq_true rfl, Nat.le_of_ble_eq_true rfl⟩) hst hA (fun r3 σ3 H locs h hst => ?_)
      refine lv_if_eq (tgt := 47) hx hb d_Sd_propose_20 (by decide) (fun hc => ?_) (fun hc => ?_)
      · replace h := h.1 hc
        exact kt_throw (E := E_ns) (ia := 137) (ic := 139) hx hb hown hlocks htr (by decide) hts (Zk_ok g) hZ hst (at_ns g A) gw705 gw706 gw23 hout (hl.1.trans hml.symm) (Nat.le_of_ble_eq_true rfl) (Nat.le_of_ble_eq_true rfl) (Nat.le_of_ble_eq_true rfl) (Nat.le_of_ble_eq_true rfl) h d_Sd_propose_47 d_Sd_propose_50 d_Sd_propose_51 d_Sd_propose_54
      · replace h := h.2 hc
        refine lv_aload_n hx hb d_Sd_propose_23 rfl (lv_at hl 0 rfl) ?_
        refine va_get (D := D) (ci := 9) (C := R_Sd) (T := T_Sd) (N := 9) hx hb hts in_Sd hown hK hst.1 51 (WS_o51 g σ3) rfl 2 (by decide) (hts _ gw401) (fun _ h9 => h9) rfl d_Sd_propose_24 ?_
        refine va_get (D := D) (ci := 0) (C := R_Tr) (T := T_Tr) (N := 12) hx hb hts in_Tr hown hK hst.1 13 (WS_o13 g σ3) rfl 1 (by decide) (hts _ gw136) (fun _ h9 => h9) rfl d_Sd_propose_27 ?_
        refine lv_iload_n hx hb d_Sd_propose_30 rfl (lv_at hl 1 rfl) ?_
        obtain ⟨hi, h⟩ := h
        refine va_iald hx hb hK hst.1 14 0 (WS_a14 g σ3) rfl hi d_Sd_propose_31 ?_
        refine lv_bipush (v := (6 : Int32)) hx hb d_Sd_propose_32 (by decide) ?_
        refine lv_icmp_ne (tgt := 47) hx hb d_Sd_propose_34 (by decide) (fun hc => ?_) (fun hc => ?_)
        · replace h := h.1 hc
          exact kt_throw (E := E_ns) (ia := 137) (ic := 139) hx hb hown hlocks htr (by decide) hts (Zk_ok g) hZ hst (at_ns g A) gw705 gw706 gw23 hout (hl.1.trans hml.symm) (Nat.le_of_ble_eq_true rfl) (Nat.le_of_ble_eq_true rfl) (Nat.le_of_ble_eq_true rfl) (Nat.le_of_ble_eq_true rfl) h d_Sd_propose_47 d_Sd_propose_50 d_Sd_propose_51 d_Sd_propose_54
        · replace h := h.2 hc
          refine lv_aload_n hx hb d_Sd_propose_37 rfl (lv_at hl 0 rfl) ?_
          refine va_get (D := D) (ci := 9) (C := R_Sd) (T := T_Sd) (N := 9) hx hb hts in_Sd hown hK hst.1 51 (WS_o51 g σ3) rfl 1 (by decide) (hts _ gw400) (fun _ h9 => h9) rfl d_Sd_propose_38 ?_
          refine va_get (D := D) (ci := 0) (C := R_Tr) (T := T_Tr) (N := 12) hx hb hts in_Tr hown hK hst.1 0 (WS_o0 g σ3) rfl 9 (by decide) (hts _ gw172) (fun _ h9 => h9) rfl d_Sd_propose_41 ?_
          refine lv_if_ne (tgt := 55) hx hb d_Sd_propose_44 (by decide) (fun hc => ?_) (fun hc => ?_)
          · replace h := h.1 hc
            exact h.elim
          · replace h := h.2 hc
            exact kt_throw (E := E_ns) (ia := 137) (ic := 139) hx hb hown hlocks htr (by decide) hts (Zk_ok g) hZ hst (at_ns g A) gw705 gw706 gw23 hout (hl.1.trans hml.symm) (Nat.le_of_ble_eq_true rfl) (Nat.le_of_ble_eq_true rfl) (Nat.le_of_ble_eq_true rfl) (Nat.le_of_ble_eq_true rfl) h d_Sd_propose_47 d_Sd_propose_50 d_Sd_propose_51 d_Sd_propose_54
set_option maxRecDepth 100000 in
set_option maxHeartbeats 4000000 in
theorem c_Sd_propose_ns (l : Launch) {D : va_G} {g : Gm} (htr : l.stackTraces = false) {sz : Nat} (x1 : Int32) {σ : Sg} {post : Sg → Prop} (h : wq_Sd_propose_ns x1 σ post) : MetT l y_Sd_propose (.code y_Sd_propose k_Sd_propose 2 (some .int) :: GW) { frames := 37, cells := 1, slots := 6, locals := 928 } (PcW D vwCl (WS g) g (Zk g) σ sz [.ref (g.1 51), .int x1]) E_ns (fun t => ∃ σ1, post σ1 ∧ Bw D vwCl (WS g) (va_A (WS g σ) sz) σ1 t) (va_A (WS g σ) sz) 1 6 := by
  refine kt_entry (own := R_Sd) (by decide) rfl rfl (Nat.le_of_ble_eq_true rfl) ?_
  intro p e s m below meth c ls hsz C hout hl hst
  exact b_Sd_propose_ns_0 C htr hout x1 σ _ _ ls hl hst h
def wq_Sd_propose_uo (x1 : Int32) (σ : Sg) (post : Sg → Prop) : Prop := (wq_Sd_readTree (1 : Int32) σ (fun r1 σ1 => (r1 = 0 ∨ r1 = 13) ∧ (wq_Sd_readTree (0 : Int32) σ1 (fun r2 σ2 => (r2 = 0 ∨ r2 = 13) ∧ (wq_Tr_has 13 x1 σ2 (fun r3 σ3 => ((r3 = 0 → False) ∧ (¬ r3 = 0 → (vp_in x1 80 ∧ ((¬ (σ3.1 14 x1.toNatClampNeg) = (6 : Int32) → False) ∧ ((σ3.1 14 x1.toNatClampNeg) = (6 : Int32) → ((¬ (σ3.1 0 9) = 0 → (wq_Pl_refresh  σ3 (fun σ4 => (((σ4.1 29 7) = 0 → False) ∧ (¬ (σ4.1 29 7) = 0 → post σ4))))) ∧ ((σ3.1 0 9) = 0 → False)))))))))))))
set_option maxRecDepth 100000 in
set_option maxHeartbeats 4000000 in
theorem b_Sd_propose_uo_0 {p : Program} {l : Launch} {e : Env} {s : State} {m : MethodId} {args : Array Value} {below : List Frame} {meth : Method} {c : Code} {D : va_G} {g : Gm} {A : Nat → Prop} {post : Sg → Prop} (C : kC p s m args meth c k_Sd_propose 2 (some .int) GW R_Sd D vwCl g (Zk g) A) (htr : l.stackTraces = false) (hout : c.exceptionTable.isEmpty = true) (x1 : Int32) (σ : Sg) (H : Heap) (locs : List Loc) (ls : Array Slot) (hl : lv_has ls 2 [(0, .ref (g.1 51)), (1, .int x1)]) (hst : Wst D vwCl (WS g) A s σ H locs) (h : wq_Sd_propose_uo x1 σ post) : W p l e { frames := 37, cells := 1, slots := 6, locals := 928 } s m args below meth c H locs 0 0 (MQT below E_uo (fun t => ∃ σ1, post σ1 ∧ Bw D vwCl (WS g) A σ1 t) A s 1 6) (F0 m 0 ls []) := by
  obtain ⟨hx, hb, hr, hml, hown, hts, hlocks, hK, hZ, hA⟩ := C
  unfold wq_Sd_propose_uo at h
  refine lv_aload_n hx hb d_Sd_propose_0 rfl (lv_at hl 0 rfl) ?_
  refine lv_iconst (v := (1 : Int32)) hx hb d_Sd_propose_1 (by decide) ?_
  refine kw_callr (va_runV (As := [.int (1 : Int32)]) (rest := []) (b := g.1 51) ⟨hx, hb, hml, hown, hts⟩ (c_Sd_readTree l (1 : Int32) h) (cwV 1 hts (gd_v gw605 gw607 gs3 gw1 gw608) rfl rfl rfl (by decide +kernel) ⟨Nat.le_of_ble_eq_true rfl, Nat.le_of_ble_eq_true rfl⟩) ⟨kw_blind (Zk_ok g), va_recv hK hst.1 rfl (WS_o51 g σ), kw_pre (Zk_ok g) hK hZ hA hst⟩ rfl rfl hl.1 rfl (lv_room (Nat.le_of_ble_eq_true rfl)) d_Sd_propose_2 ⟨Nat.le_of_ble_eq_true rfl, Nat.le_of_ble_eq_true rfl⟩) hst hA (fun r1 σ1 H locs h hst => ?_)
  obtain ⟨hb1, h⟩ := h
  rcases hb1 with rfl | rfl
  · refine lv_pop hx hb d_Sd_propose_5 rfl ?_
    refine lv_aload_n hx hb d_Sd_propose_6 rfl (lv_at hl 0 rfl) ?_
    refine lv_iconst (v := (0 : Int32)) hx hb d_Sd_propose_7 (by decide) ?_
    refine kw_callr (va_runV (As := [.int (0 : Int32)]) (rest := []) (b := g.1 51) ⟨hx, hb, hml, hown, hts⟩ (c_Sd_readTree l (0 : Int32) h) (cwV 1 hts (gd_v gw605 gw607 gs3 gw1 gw608) rfl rfl rfl (by decide +kernel) ⟨Nat.le_of_ble_eq_true rfl, Nat.le_of_ble_eq_true rfl⟩) ⟨kw_blind (Zk_ok g), va_recv hK hst.1 rfl (WS_o51 g σ1), kw_pre (Zk_ok g) hK hZ hA hst⟩ rfl rfl hl.1 rfl (lv_room (Nat.le_of_ble_eq_true rfl)) d_Sd_propose_8 ⟨Nat.le_of_ble_eq_true rfl, Nat.le_of_ble_eq_true rfl⟩) hst hA (fun r2 σ2 H locs h hst => ?_)
    obtain ⟨hb1, h⟩ := h
    rcases hb1 with rfl | rfl
    · refine lv_pop hx hb d_Sd_propose_11 rfl ?_
      refine lv_aload_n hx hb d_Sd_propose_12 rfl (lv_at hl 0 rfl) ?_
      refine va_get (D := D) (ci := 9) (C := R_Sd) (T := T_Sd) (N := 9) hx hb hts in_Sd hown hK hst.1 51 (WS_o51 g σ2) rfl 2 (by decide) (hts _ gw401) (fun _ h9 => h9) rfl d_Sd_propose_13 ?_
      refine lv_iload_n hx hb d_Sd_propose_16 rfl (lv_at hl 1 rfl) ?_
      refine kw_calli (va_runV (As := [.int x1]) (rest := []) (b := g.1 13) ⟨hx, hb, hml, hown, hts⟩ (c_Tr_has_13 l x1 h) (cwV 1 hts (gd_v gw701 gw702 gw703 gw7 gw704) rfl rfl rfl (by decide +kernel) ⟨Nat.le_of_ble_eq_true rfl, Nat.le_of_ble_eq_true rfl⟩) ⟨kw_blind (Zk_ok g), va_recv hK hst.1 rfl (WS_o13 g σ2), kw_pre (Zk_ok g) hK hZ hA hst⟩ rfl rfl hl.1 rfl (lv_room (Nat.le_of_ble_eq_true rfl)) d_Sd_propose_17 ⟨Nat.le_of_ble_eq_true rfl, Nat.le_of_ble_eq_true rfl⟩) hst hA (fun r3 σ3 H locs h hst => ?_)
      refine lv_if_eq (tgt := 47) hx hb d_Sd_propose_20 (by decide) (fun hc => ?_) (fun hc => ?_)
      · replace h := h.1 hc
        exact h.elim
      · replace h := h.2 hc
        refine lv_aload_n hx hb d_Sd_propose_23 rfl (lv_at hl 0 rfl) ?_
        refine va_get (D := D) (ci := 9) (C := R_Sd) (T := T_Sd) (N := 9) hx hb hts in_Sd hown hK hst.1 51 (WS_o51 g σ3) rfl 2 (by decide) (hts _ gw401) (fun _ h9 => h9) rfl d_Sd_propose_24 ?_
        refine va_get (D := D) (ci := 0) (C := R_Tr) (T := T_Tr) (N := 12) hx hb hts in_Tr hown hK hst.1 13 (WS_o13 g σ3) rfl 1 (by decide) (hts _ gw136) (fun _ h9 => h9) rfl d_Sd_propose_27 ?_
        refine lv_iload_n hx hb d_Sd_propose_30 rfl (lv_at hl 1 rfl) ?_
        obtain ⟨hi, h⟩ := h
        refine va_iald hx hb hK hst.1 14 0 (WS_a14 g σ3) rfl hi d_Sd_propose_31 ?_
        refine lv_bipush (v := (6 : Int32)) hx hb d_Sd_propose_32 (by decide) ?_
        refine lv_icmp_ne (tgt := 47) hx hb d_Sd_propose_34 (by decide) (fun hc => ?_) (fun hc => ?_)
        · replace h := h.1 hc
          exact h.elim
        · replace h := h.2 hc
          refine lv_aload_n hx hb d_Sd_propose_37 rfl (lv_at hl 0 rfl) ?_
          refine va_get (D := D) (ci := 9) (C := R_Sd) (T := T_Sd) (N := 9) hx hb hts in_Sd hown hK hst.1 51 (WS_o51 g σ3) rfl 1 (by decide) (hts _ gw400) (fun _ h9 => h9) rfl d_Sd_propose_38 ?_
          refine va_get (D := D) (ci := 0) (C := R_Tr) (T := T_Tr) (N := 12) hx hb hts in_Tr hown hK hst.1 0 (WS_o0 g σ3) rfl 9 (by decide) (hts _ gw172) (fun _ h9 => h9) rfl d_Sd_propose_41 ?_
          refine lv_if_ne (tgt := 55) hx hb d_Sd_propose_44 (by decide) (fun hc => ?_) (fun hc => ?_)
          · replace h := h.1 hc
            refine lv_aload_n hx hb d_Sd_propose_55 rfl (lv_at hl 0 rfl) ?_
            refine va_get (D := D) (ci := 9) (C := R_Sd) (T := T_Sd) (N := 9) hx hb hts in_Sd hown hK hst.1 51 (WS_o51 g σ3) rfl 5 (by decide) (hts _ gw404) (fun _ h9 => h9) rfl d_Sd_propose_56 ?_
            refine kw_callv (va_runV (As := []) (rest := []) (b := g.1 29) ⟨hx, hb, hml, hown, hts⟩ (c_Pl_refresh l h) (cwV 0 hts (gd_v gw742 gw743 gw744 gw10 gw745) rfl rfl rfl (by decide +kernel) ⟨Nat.le_of_ble_eq_true rfl, Nat.le_of_ble_eq_true rfl⟩) ⟨kw_blind (Zk_ok g), va_recv hK hst.1 rfl (WS_o29 g σ3), kw_pre (Zk_ok g) hK hZ hA hst⟩ rfl rfl hl.1 rfl (lv_room (Nat.le_of_ble_eq_true rfl)) d_Sd_propose_59 ⟨Nat.le_of_ble_eq_true rfl, Nat.le_of_ble_eq_true rfl⟩) hst hA (fun σ4 H locs h hst => ?_)
            refine lv_aload_n hx hb d_Sd_propose_62 rfl (lv_at hl 0 rfl) ?_
            refine va_get (D := D) (ci := 9) (C := R_Sd) (T := T_Sd) (N := 9) hx hb hts in_Sd hown hK hst.1 51 (WS_o51 g σ4) rfl 5 (by decide) (hts _ gw404) (fun _ h9 => h9) rfl d_Sd_propose_63 ?_
            refine va_get (D := D) (ci := 5) (C := R_Pl) (T := T_Pl) (N := 10) hx hb hts in_Pl hown hK hst.1 29 (WS_o29 g σ4) rfl 7 (by decide) (hts _ gw256) (fun _ h9 => h9) rfl d_Sd_propose_66 ?_
            refine lv_if_eq (tgt := 80) hx hb d_Sd_propose_69 (by decide) (fun hc => ?_) (fun hc => ?_)
            · replace h := h.1 hc
              exact h.elim
            · replace h := h.2 hc
              exact kt_throw (E := E_uo) (ia := 175) (ic := 177) hx hb hown hlocks htr (by decide) hts (Zk_ok g) hZ hst (at_uo g A) gw781 gw782 gw24 hout (hl.1.trans hml.symm) (Nat.le_of_ble_eq_true rfl) (Nat.le_of_ble_eq_true rfl) (Nat.le_of_ble_eq_true rfl) (Nat.le_of_ble_eq_true rfl) h d_Sd_propose_72 d_Sd_propose_75 d_Sd_propose_76 d_Sd_propose_79
          · replace h := h.2 hc
            exact h.elim
    · refine lv_pop hx hb d_Sd_propose_11 rfl ?_
      refine lv_aload_n hx hb d_Sd_propose_12 rfl (lv_at hl 0 rfl) ?_
      refine va_get (D := D) (ci := 9) (C := R_Sd) (T := T_Sd) (N := 9) hx hb hts in_Sd hown hK hst.1 51 (WS_o51 g σ2) rfl 2 (by decide) (hts _ gw401) (fun _ h9 => h9) rfl d_Sd_propose_13 ?_
      refine lv_iload_n hx hb d_Sd_propose_16 rfl (lv_at hl 1 rfl) ?_
      refine kw_calli (va_runV (As := [.int x1]) (rest := []) (b := g.1 13) ⟨hx, hb, hml, hown, hts⟩ (c_Tr_has_13 l x1 h) (cwV 1 hts (gd_v gw701 gw702 gw703 gw7 gw704) rfl rfl rfl (by decide +kernel) ⟨Nat.le_of_ble_eq_true rfl, Nat.le_of_ble_eq_true rfl⟩) ⟨kw_blind (Zk_ok g), va_recv hK hst.1 rfl (WS_o13 g σ2), kw_pre (Zk_ok g) hK hZ hA hst⟩ rfl rfl hl.1 rfl (lv_room (Nat.le_of_ble_eq_true rfl)) d_Sd_propose_17 ⟨Nat.le_of_ble_eq_true rfl, Nat.le_of_ble_eq_true rfl⟩) hst hA (fun r3 σ3 H locs h hst => ?_)
      refine lv_if_eq (tgt := 47) hx hb d_Sd_propose_20 (by decide) (fun hc => ?_) (fun hc => ?_)
      · replace h := h.1 hc
        exact h.elim
      · replace h := h.2 hc
        refine lv_aload_n hx hb d_Sd_propose_23 rfl (lv_at hl 0 rfl) ?_
        refine va_get (D := D) (ci := 9) (C := R_Sd) (T := T_Sd) (N := 9) hx hb hts in_Sd hown hK hst.1 51 (WS_o51 g σ3) rfl 2 (by decide) (hts _ gw401) (fun _ h9 => h9) rfl d_Sd_propose_24 ?_
        refine va_get (D := D) (ci := 0) (C := R_Tr) (T := T_Tr) (N := 12) hx hb hts in_Tr hown hK hst.1 13 (WS_o13 g σ3) rfl 1 (by decide) (hts _ gw136) (fun _ h9 => h9) rfl d_Sd_propose_27 ?_
        refine lv_iload_n hx hb d_Sd_propose_30 rfl (lv_at hl 1 rfl) ?_
        obtain ⟨hi, h⟩ := h
        refine va_iald hx hb hK hst.1 14 0 (WS_a14 g σ3) rfl hi d_Sd_propose_31 ?_
        refine lv_bipush (v := (6 : Int32)) hx hb d_Sd_propose_32 (by decide) ?_
        refine lv_icmp_ne (tgt := 47) hx hb d_Sd_propose_34 (by decide) (fun hc => ?_) (fun hc => ?_)
        · replace h := h.1 hc
          exact h.elim
        · replace h := h.2 hc
          refine lv_aload_n hx hb d_Sd_propose_37 rfl (lv_at hl 0 rfl) ?_
          refine va_get (D := D) (ci := 9) (C := R_Sd) (T := T_Sd) (N := 9) hx hb hts in_Sd hown hK hst.1 51 (WS_o51 g σ3) rfl 1 (by decide) (hts _ gw400) (fun _ h9 => h9) rfl d_Sd_propose_38 ?_
          refine va_get (D := D) (ci := 0) (C := R_Tr) (T := T_Tr) (N := 12) hx hb hts in_Tr hown hK hst.1 0 (WS_o0 g σ3) rfl 9 (by decide) (hts _ gw172) (fun _ h9 => h9) rfl d_Sd_propose_41 ?_
          refine lv_if_ne (tgt := 55) hx hb d_Sd_propose_44 (by decide) (fun hc => ?_) (fun hc => ?_)
          · replace h := h.1 hc
            refine lv_aload_n hx hb d_Sd_propose_55 rfl (lv_at hl 0 rfl) ?_
            refine va_get (D := D) (ci := 9) (C := R_Sd) (T := T_Sd) (N := 9) hx hb hts in_Sd hown hK hst.1 51 (WS_o51 g σ3) rfl 5 (by decide) (hts _ gw404) (fun _ h9 => h9) rfl d_Sd_propose_56 ?_
            refine kw_callv (va_runV (As := []) (rest := []) (b := g.1 29) ⟨hx, hb, hml, hown, hts⟩ (c_Pl_refresh l h) (cwV 0 hts (gd_v gw742 gw743 gw744 gw10 gw745) rfl rfl rfl (by decide +kernel) ⟨Nat.le_of_ble_eq_true rfl, Nat.le_of_ble_eq_true rfl⟩) ⟨kw_blind (Zk_ok g), va_recv hK hst.1 rfl (WS_o29 g σ3), kw_pre (Zk_ok g) hK hZ hA hst⟩ rfl rfl hl.1 rfl (lv_room (Nat.le_of_ble_eq_true rfl)) d_Sd_propose_59 ⟨Nat.le_of_ble_eq_true rfl, Nat.le_of_ble_eq_true rfl⟩) hst hA (fun σ4 H locs h hst => ?_)
            refine lv_aload_n hx hb d_Sd_propose_62 rfl (lv_at hl 0 rfl) ?_
            refine va_get (D := D) (ci := 9) (C := R_Sd) (T := T_Sd) (N := 9) hx hb hts in_Sd hown hK hst.1 51 (WS_o51 g σ4) rfl 5 (by decide) (hts _ gw404) (fun _ h9 => h9) rfl d_Sd_propose_63 ?_
            refine va_get (D := D) (ci := 5) (C := R_Pl) (T := T_Pl) (N := 10) hx hb hts in_Pl hown hK hst.1 29 (WS_o29 g σ4) rfl 7 (by decide) (hts _ gw256) (fun _ h9 => h9) rfl d_Sd_propose_66 ?_
            refine lv_if_eq (tgt := 80) hx hb d_Sd_propose_69 (by decide) (fun hc => ?_) (fun hc => ?_)
            · replace h := h.1 hc
              exact h.elim
            · replace h := h.2 hc
              exact kt_throw (E := E_uo) (ia := 175) (ic := 177) hx hb hown hlocks htr (by decide) hts (Zk_ok g) hZ hst (at_uo g A) gw781 gw782 gw24 hout (hl.1.trans hml.symm) (Nat.le_of_ble_eq_true rfl) (Nat.le_of_ble_eq_true rfl) (Nat.le_of_ble_eq_true rfl) (Nat.le_of_ble_eq_true rfl) h d_Sd_propose_72 d_Sd_propose_75 d_Sd_propose_76 d_Sd_propose_79
          · replace h := h.2 hc
            exact h.elim
  · refine lv_pop hx hb d_Sd_propose_5 rfl ?_
    refine lv_aload_n hx hb d_Sd_propose_6 rfl (lv_at hl 0 rfl) ?_
    refine lv_iconst (v := (0 : Int32)) hx hb d_Sd_propose_7 (by decide) ?_
    refine kw_callr (va_runV (As := [.int (0 : Int32)]) (rest := []) (b := g.1 51) ⟨hx, hb, hml, hown, hts⟩ (c_Sd_readTree l (0 : Int32) h) (cwV 1 hts (gd_v gw605 gw607 gs3 gw1 gw608) rfl rfl rfl (by decide +kernel) ⟨Nat.le_of_ble_eq_true rfl, Nat.le_of_ble_eq_true rfl⟩) ⟨kw_blind (Zk_ok g), va_recv hK hst.1 rfl (WS_o51 g σ1), kw_pre (Zk_ok g) hK hZ hA hst⟩ rfl rfl hl.1 rfl (lv_room (Nat.le_of_ble_eq_true rfl)) d_Sd_propose_8 ⟨Nat.le_of_ble_eq_true rfl, Nat.le_of_ble_eq_true rfl⟩) hst hA (fun r2 σ2 H locs h hst => ?_)
    obtain ⟨hb1, h⟩ := h
    rcases hb1 with rfl | rfl
    · refine lv_pop hx hb d_Sd_propose_11 rfl ?_
      refine lv_aload_n hx hb d_Sd_propose_12 rfl (lv_at hl 0 rfl) ?_
      refine va_get (D := D) (ci := 9) (C := R_Sd) (T := T_Sd) (N := 9) hx hb hts in_Sd hown hK hst.1 51 (WS_o51 g σ2) rfl 2 (by decide) (hts _ gw401) (fun _ h9 => h9) rfl d_Sd_propose_13 ?_
      refine lv_iload_n hx hb d_Sd_propose_16 rfl (lv_at hl 1 rfl) ?_
      refine kw_calli (va_runV (As := [.int x1]) (rest := []) (b := g.1 13) ⟨hx, hb, hml, hown, hts⟩ (c_Tr_has_13 l x1 h) (cwV 1 hts (gd_v gw701 gw702 gw703 gw7 gw704) rfl rfl rfl (by decide +kernel) ⟨Nat.le_of_ble_eq_true rfl, Nat.le_of_ble_eq_true rfl⟩) ⟨kw_blind (Zk_ok g), va_recv hK hst.1 rfl (WS_o13 g σ2), kw_pre (Zk_ok g) hK hZ hA hst⟩ rfl rfl hl.1 rfl (lv_room (Nat.le_of_ble_eq_true rfl)) d_Sd_propose_17 ⟨Nat.le_of_ble_eq_true rfl, Nat.le_of_ble_eq_true rfl⟩) hst hA (fun r3 σ3 H locs h hst => ?_)
      refine lv_if_eq (tgt := 47) hx hb d_Sd_propose_20 (by decide) (fun hc => ?_) (fun hc => ?_)
      · replace h := h.1 hc
        exact h.elim
      · replace h := h.2 hc
        refine lv_aload_n hx hb d_Sd_propose_23 rfl (lv_at hl 0 rfl) ?_
        refine va_get (D := D) (ci := 9) (C := R_Sd) (T := T_Sd) (N := 9) hx hb hts in_Sd hown hK hst.1 51 (WS_o51 g σ3) rfl 2 (by decide) (hts _ gw401) (fun _ h9 => h9) rfl d_Sd_propose_24 ?_
        refine va_get (D := D) (ci := 0) (C := R_Tr) (T := T_Tr) (N := 12) hx hb hts in_Tr hown hK hst.1 13 (WS_o13 g σ3) rfl 1 (by decide) (hts _ gw136) (fun _ h9 => h9) rfl d_Sd_propose_27 ?_
        refine lv_iload_n hx hb d_Sd_propose_30 rfl (lv_at hl 1 rfl) ?_
        obtain ⟨hi, h⟩ := h
        refine va_iald hx hb hK hst.1 14 0 (WS_a14 g σ3) rfl hi d_Sd_propose_31 ?_
        refine lv_bipush (v := (6 : Int32)) hx hb d_Sd_propose_32 (by decide) ?_
        refine lv_icmp_ne (tgt := 47) hx hb d_Sd_propose_34 (by decide) (fun hc => ?_) (fun hc => ?_)
        · replace h := h.1 hc
          exact h.elim
        · replace h := h.2 hc
          refine lv_aload_n hx hb d_Sd_propose_37 rfl (lv_at hl 0 rfl) ?_
          refine va_get (D := D) (ci := 9) (C := R_Sd) (T := T_Sd) (N := 9) hx hb hts in_Sd hown hK hst.1 51 (WS_o51 g σ3) rfl 1 (by decide) (hts _ gw400) (fun _ h9 => h9) rfl d_Sd_propose_38 ?_
          refine va_get (D := D) (ci := 0) (C := R_Tr) (T := T_Tr) (N := 12) hx hb hts in_Tr hown hK hst.1 0 (WS_o0 g σ3) rfl 9 (by decide) (hts _ gw172) (fun _ h9 => h9) rfl d_Sd_propose_41 ?_
          refine lv_if_ne (tgt := 55) hx hb d_Sd_propose_44 (by decide) (fun hc => ?_) (fun hc => ?_)
          · replace h := h.1 hc
            refine lv_aload_n hx hb d_Sd_propose_55 rfl (lv_at hl 0 rfl) ?_
            refine va_get (D := D) (ci := 9) (C := R_Sd) (T := T_Sd) (N := 9) hx hb hts in_Sd hown hK hst.1 51 (WS_o51 g σ3) rfl 5 (by decide) (hts _ gw404) (fun _ h9 => h9) rfl d_Sd_propose_56 ?_
            refine kw_callv (va_runV (As := []) (rest := []) (b := g.1 29) ⟨hx, hb, hml, hown, hts⟩ (c_Pl_refresh l h) (cwV 0 hts (gd_v gw742 gw743 gw744 gw10 gw745) rfl rfl rfl (by decide +kernel) ⟨Nat.le_of_ble_eq_true rfl, Nat.le_of_ble_eq_true rfl⟩) ⟨kw_blind (Zk_ok g), va_recv hK hst.1 rfl (WS_o29 g σ3), kw_pre (Zk_ok g) hK hZ hA hst⟩ rfl rfl hl.1 rfl (lv_room (Nat.le_of_ble_eq_true rfl)) d_Sd_propose_59 ⟨Nat.le_of_ble_eq_true rfl, Nat.le_of_ble_eq_true rfl⟩) hst hA (fun σ4 H locs h hst => ?_)
            refine lv_aload_n hx hb d_Sd_propose_62 rfl (lv_at hl 0 rfl) ?_
            refine va_get (D := D) (ci := 9) (C := R_Sd) (T := T_Sd) (N := 9) hx hb hts in_Sd hown hK hst.1 51 (WS_o51 g σ4) rfl 5 (by decide) (hts _ gw404) (fun _ h9 => h9) rfl d_Sd_propose_63 ?_
            refine va_get (D := D) (ci := 5) (C := R_Pl) (T := T_Pl) (N := 10) hx hb hts in_Pl hown hK hst.1 29 (WS_o29 g σ4) rfl 7 (by decide) (hts _ gw256) (fun _ h9 => h9) rfl d_Sd_propose_66 ?_
            refine lv_if_eq (tgt := 80) hx hb d_Sd_propose_69 (by decide) (fun hc => ?_) (fun hc => ?_)
            · replace h := h.1 hc
              exact h.elim
            · replace h := h.2 hc
              exact kt_throw (E := E_uo) (ia := 175) (ic := 177) hx hb hown hlocks htr (by decide) hts (Zk_ok g) hZ hst (at_uo g A) gw781 gw782 gw24 hout (hl.1.trans hml.symm) (Nat.le_of_ble_eq_true rfl) (Nat.le_of_ble_eq_true rfl) (Nat.le_of_ble_eq_true rfl) (Nat.le_of_ble_eq_true rfl) h d_Sd_propose_72 d_Sd_propose_75 d_Sd_propose_76 d_Sd_propose_79
          · replace h := h.2 hc
            exact h.elim
    · refine lv_pop hx hb d_Sd_propose_11 rfl ?_
      refine lv_aload_n hx hb d_Sd_propose_12 rfl (lv_at hl 0 rfl) ?_
      refine va_get (D := D) (ci := 9) (C := R_Sd) (T := T_Sd) (N := 9) hx hb hts in_Sd hown hK hst.1 51 (WS_o51 g σ2) rfl 2 (by decide) (hts _ gw401) (fun _ h9 => h9) rfl d_Sd_propose_13 ?_
      refine lv_iload_n hx hb d_Sd_propose_16 rfl (lv_at hl 1 rfl) ?_
      refine kw_calli (va_runV (As := [.int x1]) (rest := []) (b := g.1 13) ⟨hx, hb, hml, hown, hts⟩ (c_Tr_has_13 l x1 h) (cwV 1 hts (gd_v gw701 gw702 gw703 gw7 gw704) rfl rfl rfl (by decide +kernel) ⟨Nat.le_of_ble_eq_true rfl, Nat.le_of_ble_eq_true rfl⟩) ⟨kw_blind (Zk_ok g), va_recv hK hst.1 rfl (WS_o13 g σ2), kw_pre (Zk_ok g) hK hZ hA hst⟩ rfl rfl hl.1 rfl (lv_room (Nat.le_of_ble_eq_true rfl)) d_Sd_propose_17 ⟨Nat.le_of_ble_eq_true rfl, Nat.le_of_ble_eq_true rfl⟩) hst hA (fun r3 σ3 H locs h hst => ?_)
      refine lv_if_eq (tgt := 47) hx hb d_Sd_propose_20 (by decide) (fun hc => ?_) (fun hc => ?_)
      · replace h := h.1 hc
        exact h.elim
      · replace h := h.2 hc
        refine lv_aload_n hx hb d_Sd_propose_23 rfl (lv_at hl 0 rfl) ?_
        refine va_get (D := D) (ci := 9) (C := R_Sd) (T := T_Sd) (N := 9) hx hb hts in_Sd hown hK hst.1 51 (WS_o51 g σ3) rfl 2 (by decide) (hts _ gw401) (fun _ h9 => h9) rfl d_Sd_propose_24 ?_
        refine va_get (D := D) (ci := 0) (C := R_Tr) (T := T_Tr) (N := 12) hx hb hts in_Tr hown hK hst.1 13 (WS_o13 g σ3) rfl 1 (by decide) (hts _ gw136) (fun _ h9 => h9) rfl d_Sd_propose_27 ?_
        refine lv_iload_n hx hb d_Sd_propose_30 rfl (lv_at hl 1 rfl) ?_
        obtain ⟨hi, h⟩ := h
        refine va_iald hx hb hK hst.1 14 0 (WS_a14 g σ3) rfl hi d_Sd_propose_31 ?_
        refine lv_bipush (v := (6 : Int32)) hx hb d_Sd_propose_32 (by decide) ?_
        refine lv_icmp_ne (tgt := 47) hx hb d_Sd_propose_34 (by decide) (fun hc => ?_) (fun hc => ?_)
        · replace h := h.1 hc
          exact h.elim
        · replace h := h.2 hc
          refine lv_aload_n hx hb d_Sd_propose_37 rfl (lv_at hl 0 rfl) ?_
          refine va_get (D := D) (ci := 9) (C := R_Sd) (T := T_Sd) (N := 9) hx hb hts in_Sd hown hK hst.1 51 (WS_o51 g σ3) rfl 1 (by decide) (hts _ gw400) (fun _ h9 => h9) rfl d_Sd_propose_38 ?_
          refine va_get (D := D) (ci := 0) (C := R_Tr) (T := T_Tr) (N := 12) hx hb hts in_Tr hown hK hst.1 0 (WS_o0 g σ3) rfl 9 (by decide) (hts _ gw172) (fun _ h9 => h9) rfl d_Sd_propose_41 ?_
          refine lv_if_ne (tgt := 55) hx hb d_Sd_propose_44 (by decide) (fun hc => ?_) (fun hc => ?_)
          · replace h := h.1 hc
            refine lv_aload_n hx hb d_Sd_propose_55 rfl (lv_at hl 0 rfl) ?_
            refine va_get (D := D) (ci := 9) (C := R_Sd) (T := T_Sd) (N := 9) hx hb hts in_Sd hown hK hst.1 51 (WS_o51 g σ3) rfl 5 (by decide) (hts _ gw404) (fun _ h9 => h9) rfl d_Sd_propose_56 ?_
            refine kw_callv (va_runV (As := []) (rest := []) (b := g.1 29) ⟨hx, hb, hml, hown, hts⟩ (c_Pl_refresh l h) (cwV 0 hts (gd_v gw742 gw743 gw744 gw10 gw745) rfl rfl rfl (by decide +kernel) ⟨Nat.le_of_ble_eq_true rfl, Nat.le_of_ble_eq_true rfl⟩) ⟨kw_blind (Zk_ok g), va_recv hK hst.1 rfl (WS_o29 g σ3), kw_pre (Zk_ok g) hK hZ hA hst⟩ rfl rfl hl.1 rfl (lv_room (Nat.le_of_ble_eq_true rfl)) d_Sd_propose_59 ⟨Nat.le_of_ble_eq_true rfl, Nat.le_of_ble_eq_true rfl⟩) hst hA (fun σ4 H locs h hst => ?_)
            refine lv_aload_n hx hb d_Sd_propose_62 rfl (lv_at hl 0 rfl) ?_
            refine va_get (D := D) (ci := 9) (C := R_Sd) (T := T_Sd) (N := 9) hx hb hts in_Sd hown hK hst.1 51 (WS_o51 g σ4) rfl 5 (by decide) (hts _ gw404) (fun _ h9 => h9) rfl d_Sd_propose_63 ?_
            refine va_get (D := D) (ci := 5) (C := R_Pl) (T := T_Pl) (N := 10) hx hb hts in_Pl hown hK hst.1 29 (WS_o29 g σ4) rfl 7 (by decide) (hts _ gw256) (fun _ h9 => h9) rfl d_Sd_propose_66 ?_
            refine lv_if_eq (tgt := 80) hx hb d_Sd_propose_69 (by decide) (fun hc => ?_) (fun hc => ?_)
            · replace h := h.1 hc
              exact h.elim
            · replace h := h.2 hc
              exact kt_throw (E := E_uo) (ia := 175) (ic := 177) hx hb hown hlocks htr (by decide) hts (Zk_ok g) hZ hst (at_uo g A) gw781 gw782 gw24 hout (hl.1.trans hml.symm) (Nat.le_of_ble_eq_true rfl) (Nat.le_of_ble_eq_true rfl) (Nat.le_of_ble_eq_true rfl) (Nat.le_of_ble_eq_true rfl) h d_Sd_propose_72 d_Sd_propose_75 d_Sd_propose_76 d_Sd_propose_79
          · replace h := h.2 hc
            exact h.elim
set_option maxRecDepth 100000 in
set_option maxHeartbeats 4000000 in
theorem c_Sd_propose_uo (l : Launch) {D : va_G} {g : Gm} (htr : l.stackTraces = false) {sz : Nat} (x1 : Int32) {σ : Sg} {post : Sg → Prop} (h : wq_Sd_propose_uo x1 σ post) : MetT l y_Sd_propose (.code y_Sd_propose k_Sd_propose 2 (some .int) :: GW) { frames := 37, cells := 1, slots := 6, locals := 928 } (PcW D vwCl (WS g) g (Zk g) σ sz [.ref (g.1 51), .int x1]) E_uo (fun t => ∃ σ1, post σ1 ∧ Bw D vwCl (WS g) (va_A (WS g σ) sz) σ1 t) (va_A (WS g σ) sz) 1 6 := by
  refine kt_entry (own := R_Sd) (by decide) rfl rfl (Nat.le_of_ble_eq_true rfl) ?_
  intro p e s m below meth c ls hsz C hout hl hst
  exact b_Sd_propose_uo_0 C htr hout x1 σ _ _ ls hl hst h
def wq_Sd_proposal_ns (x1 : Int32) (x2 : Int32) (σ : Sg) (post : Sg → Prop) : Prop := ((x1 < 0 → post σ) ∧ (¬ x1 < 0 → (((σ.1 45 0) ≤ x1 → post σ) ∧ (¬ (σ.1 45 0) ≤ x1 → ((0 ≤ x2 → False) ∧ (¬ 0 ≤ x2 → post σ))))))
set_option maxRecDepth 100000 in
set_option maxHeartbeats 4000000 in
theorem b_Sd_proposal_ns_0 {p : Program} {l : Launch} {e : Env} {s : State} {m : MethodId} {args : Array Value} {below : List Frame} {meth : Method} {c : Code} {D : va_G} {g : Gm} {A : Nat → Prop} {post : Sg → Prop} (C : kC p s m args meth c k_Sd_proposal 3 (some .int) GW R_Sd D vwCl g (Zk g) A) (htr : l.stackTraces = false) (hout : c.exceptionTable.isEmpty = true) (x1 : Int32) (x2 : Int32) (σ : Sg) (H : Heap) (locs : List Loc) (ls : Array Slot) (hl : lv_has ls 3 [(0, .ref (g.1 51)), (1, .int x1), (2, .int x2)]) (hst : Wst D vwCl (WS g) A s σ H locs) (h : wq_Sd_proposal_ns x1 x2 σ post) : W p l e { frames := 6, cells := 1, slots := 6, locals := 100 } s m args below meth c H locs 0 0 (MQT below E_ns (fun t => ∃ σ1, post σ1 ∧ Bw D vwCl (WS g) A σ1 t) A s 1 6) (F0 m 0 ls []) := by
  obtain ⟨hx, hb, hr, hml, hown, hts, hlocks, hK, hZ, hA⟩ := C
  unfold wq_Sd_proposal_ns at h
  refine lv_iload_n hx hb d_Sd_proposal_0 rfl (lv_at hl 1 rfl) ?_
  refine lv_if_lt (tgt := 19) hx hb d_Sd_proposal_1 (by decide) (fun hc => ?_) (fun hc => ?_)
  · replace h := h.1 hc
    exact kt_throw (E := E_ns) (ia := 137) (ic := 139) hx hb hown hlocks htr (by decide) hts (Zk_ok g) hZ hst (at_ns g A) gw705 gw706 gw23 hout (hl.1.trans hml.symm) (Nat.le_of_ble_eq_true rfl) (Nat.le_of_ble_eq_true rfl) (Nat.le_of_ble_eq_true rfl) (Nat.le_of_ble_eq_true rfl) h d_Sd_proposal_19 d_Sd_proposal_22 d_Sd_proposal_23 d_Sd_proposal_26
  · replace h := h.2 hc
    refine lv_iload_n hx hb d_Sd_proposal_4 rfl (lv_at hl 1 rfl) ?_
    refine lv_aload_n hx hb d_Sd_proposal_5 rfl (lv_at hl 0 rfl) ?_
    refine va_get (D := D) (ci := 9) (C := R_Sd) (T := T_Sd) (N := 9) hx hb hts in_Sd hown hK hst.1 51 (WS_o51 g σ) rfl 8 (by decide) (hts _ gw407) (fun _ h9 => h9) rfl d_Sd_proposal_6 ?_
    refine va_get (D := D) (ci := 8) (C := R_Pr) (T := T_Pr) (N := 10) hx hb hts in_Pr hown hK hst.1 45 (WS_o45 g σ) rfl 0 (by decide) (hts _ gw368) (fun _ h9 => h9) rfl d_Sd_proposal_9 ?_
    refine lv_icmp_ge (tgt := 19) hx hb d_Sd_proposal_12 (by decide) (fun hc => ?_) (fun hc => ?_)
    · replace h := h.1 hc
      exact kt_throw (E := E_ns) (ia := 137) (ic := 139) hx hb hown hlocks htr (by decide) hts (Zk_ok g) hZ hst (at_ns g A) gw705 gw706 gw23 hout (hl.1.trans hml.symm) (Nat.le_of_ble_eq_true rfl) (Nat.le_of_ble_eq_true rfl) (Nat.le_of_ble_eq_true rfl) (Nat.le_of_ble_eq_true rfl) h d_Sd_proposal_19 d_Sd_proposal_22 d_Sd_proposal_23 d_Sd_proposal_26
    · replace h := h.2 hc
      refine lv_iload_n hx hb d_Sd_proposal_15 rfl (lv_at hl 2 rfl) ?_
      refine lv_if_ge (tgt := 27) hx hb d_Sd_proposal_16 (by decide) (fun hc => ?_) (fun hc => ?_)
      · replace h := h.1 hc
        exact h.elim
      · replace h := h.2 hc
        exact kt_throw (E := E_ns) (ia := 137) (ic := 139) hx hb hown hlocks htr (by decide) hts (Zk_ok g) hZ hst (at_ns g A) gw705 gw706 gw23 hout (hl.1.trans hml.symm) (Nat.le_of_ble_eq_true rfl) (Nat.le_of_ble_eq_true rfl) (Nat.le_of_ble_eq_true rfl) (Nat.le_of_ble_eq_true rfl) h d_Sd_proposal_19 d_Sd_proposal_22 d_Sd_proposal_23 d_Sd_proposal_26
set_option maxRecDepth 100000 in
set_option maxHeartbeats 4000000 in
theorem c_Sd_proposal_ns (l : Launch) {D : va_G} {g : Gm} (htr : l.stackTraces = false) {sz : Nat} (x1 : Int32) (x2 : Int32) {σ : Sg} {post : Sg → Prop} (h : wq_Sd_proposal_ns x1 x2 σ post) : MetT l y_Sd_proposal (.code y_Sd_proposal k_Sd_proposal 3 (some .int) :: GW) { frames := 6, cells := 1, slots := 6, locals := 100 } (PcW D vwCl (WS g) g (Zk g) σ sz [.ref (g.1 51), .int x1, .int x2]) E_ns (fun t => ∃ σ1, post σ1 ∧ Bw D vwCl (WS g) (va_A (WS g σ) sz) σ1 t) (va_A (WS g σ) sz) 1 6 := by
  refine kt_entry (own := R_Sd) (by decide) rfl rfl (Nat.le_of_ble_eq_true rfl) ?_
  intro p e s m below meth c ls hsz C hout hl hst
  exact b_Sd_proposal_ns_0 C htr hout x1 x2 σ _ _ ls hl hst h
