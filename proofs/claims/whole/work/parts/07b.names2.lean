-- names of the JDK's index check
def R_Prec : String := "jdk/internal/util/Preconditions"
abbrev b_Prec_checkIndex : ByteArray := prog_23_method_11_code
def y_Prec_checkIndex : MethodName := ⟨R_Prec, "checkIndex", "(IILjava/util/function/BiFunction;)I"⟩
abbrev ws_Prec_checkIndex : List Cond := Cond.code y_Prec_checkIndex b_Prec_checkIndex 3 (some .int) :: aW
theorem cd_Prec_checkIndex : Cond.code y_Prec_checkIndex b_Prec_checkIndex 3 (some .int) ∈ aW := aW_in 420 (by decide +kernel) rfl
