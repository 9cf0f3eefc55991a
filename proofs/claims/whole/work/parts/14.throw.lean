/-! A throw out of a method of the class: 'throw new NoSuchElementException("..")', whose constructor hands on by entry 13 of its pool (the library's law for such a throw has 7 there). By the library's laws of the parts: ThrowableC.of_atoms, Init0T.ofS_atoms, PassC.ofS_atoms, chainS, ctorMessageOffV, athrowLeaves. -/
abbrev xN : String := "java/util/NoSuchElementException"
abbrev xR : String := "java/lang/RuntimeException"
def xcode : ByteArray := ⟨#[0x2a, 0x2b, 0xb7, 0x00, 0x0d, 0xb1]⟩
theorem xcode_0 : decode xcode 0 = .ok (.aload_n 0, 1) := by decide +kernel
theorem xcode_1 : decode xcode 1 = .ok (.aload_n 1, 1) := by decide +kernel
theorem xcode_2 : decode xcode 2 = .ok (.invokespecial 13, 3) := by decide +kernel
theorem xcode_5 : decode xcode 5 = .ok (.return_, 1) := by decide +kernel
def xPass : List Cond := Bundle.passSAtoms xN xR 13 xcode
def xChain : List Cond := Bundle.chainSAtoms xR ["java/lang/Exception"]
def xOwn (own : String) (ic : Nat) : List Cond := [.methodLink own ic (Bundle.initS xN), .instantiable xN 6, .castable xN xN, .selects xN Bundle.tFill0 Bundle.tFill0, .selects xN Bundle.tFill Bundle.tFill,
   .lays xN Bundle.tN "cause" "Ljava/lang/Throwable;", .lays xN Bundle.tN "stackTrace" Bundle.steD, .lays xN Bundle.tN "suppressedExceptions" Bundle.listD, .lays xN Bundle.tN "detailMessage" "Ljava/lang/String;",
   .fieldLink Bundle.tN 198 Bundle.tN "backtrace" "Ljava/lang/Object;", .lays Bundle.tN Bundle.tN "backtrace" "Ljava/lang/Object;", .lays xN Bundle.tN "backtrace" "Ljava/lang/Object;"]
/-- the words that the table has -/
def xTab (own : String) (ic : Nat) : List Cond := ((Bundle.throwableAtoms ++ Bundle.throwableSAtoms) ++ (xPass ++ xChain)).filter vx_no ++ xOwn own ic
set_option maxRecDepth 100000 in
theorem xt_in : ∀ w ∈ xTab RX10 176, w ∈ lw_tbl := by decide +kernel
set_option maxRecDepth 100000 in
theorem xt_ok : ∀ w ∈ xTab RX10 176, g_okw w = true := by decide +kernel
