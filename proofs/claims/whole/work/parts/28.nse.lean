/-! NOSUCHELEMENTEXCEPTION: its constructor names RuntimeException's by entry 13 -/
def bz_X4 : String := "java/util/NoSuchElementException"
def bz_n4a : List Cond := Bundle.passSAtoms bz_X4 "java/lang/RuntimeException" 13 prog_29_method_4_code
def bz_n4b : List Cond := [.methodLink "BarcodeEngine" 273 (Bundle.initS bz_X4), .instantiable bz_X4 6, .selects bz_X4 Bundle.tFill0 Bundle.tFill0, .selects bz_X4 Bundle.tFill Bundle.tFill, .lays bz_X4 Bundle.tN "cause" "Ljava/lang/Throwable;", .lays bz_X4 Bundle.tN "stackTrace" Bundle.steD, .lays bz_X4 Bundle.tN "suppressedExceptions" Bundle.listD, .lays bz_X4 Bundle.tN "detailMessage" "Ljava/lang/String;", .lays bz_X4 Bundle.tN "backtrace" "Ljava/lang/Object;"]
theorem bz_n4_good : ∀ w ∈ (bz_n4a ++ bz_n4b).filter goodWord, w ∈ lw_tbl := by decide +kernel
theorem bz_n4_ng : ∀ w ∈ (bz_n4a ++ bz_n4b).filter (fun w => !goodWord w), w ∈ bz_tng "java/util/NoSuchElementException" := by decide +kernel
theorem bz_n4_ot : ∀ w ∈ Cond.classLink "BarcodeEngine" 269 bz_X4 :: Cond.initialized bz_X4 :: (bz_n4a ++ bz_n4b), vx_ot w = true := by decide +kernel
theorem bz_n4_d : decode prog_29_method_4_code 0 = .ok (.aload_n 0, 1) ∧ decode prog_29_method_4_code 1 = .ok (.aload_n 1, 1) ∧ decode prog_29_method_4_code 2 = .ok (.invokespecial 13, 3) ∧ decode prog_29_method_4_code 5 = .ok (.return_, 1) := ⟨by decide +kernel, by decide +kernel, by decide +kernel, by decide +kernel⟩
