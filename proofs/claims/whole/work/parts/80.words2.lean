/-! the words of 'throw new NoSuchElementException(text)': its constructor's own link has another number than the printed words have -/
def zxE : String := "java/util/NoSuchElementException"
def zxA : List Cond := (Bundle.throwableAtoms ++ Bundle.throwableSAtoms ++ Bundle.passSAtoms zxE "java/lang/RuntimeException" 13 prog_20_method_4_code ++ Bundle.chainSAtoms "java/lang/RuntimeException" ["java/lang/Exception"] ++
  ([.methodLink RX8 112 (Bundle.initS zxE), .instantiable zxE 6, .castable zxE zxE, .selects zxE Bundle.tFill0 Bundle.tFill0, .selects zxE Bundle.tFill Bundle.tFill,
   .lays zxE Bundle.tN "cause" "Ljava/lang/Throwable;", .lays zxE Bundle.tN "stackTrace" Bundle.steD, .lays zxE Bundle.tN "suppressedExceptions" Bundle.listD, .lays zxE Bundle.tN "detailMessage" "Ljava/lang/String;",
   .fieldLink Bundle.tN 198 Bundle.tN "backtrace" "Ljava/lang/Object;", .lays Bundle.tN Bundle.tN "backtrace" "Ljava/lang/Object;", .lays zxE Bundle.tN "backtrace" "Ljava/lang/Object;"] : List Cond)).filter vx_no
def wsX8q : List Cond := .code yX8_at cX8_at 3 (some .int) :: ((wsX8_at_r1 ++ wsX8_at_r2) ++ wsX80 ++ wsX30 ++ wsX20 ++ zxA.filter goodWord)
def wsLq : List Cond := .codeWith yL_at cL_at 5 (some .int) [(0, 10, 13, 13)] :: ((wsL_at_r1 ++ wsL_at_r2) ++ wsX80 ++ wsX30 ++ wsX20 ++ zxA.filter goodWord)
def wsLw : List Cond := wsL_law0 ++ zxA.filter goodWord
