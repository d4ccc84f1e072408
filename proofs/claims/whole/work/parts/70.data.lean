/-! what the Statement gives of the start -/
def nT (n : String) : Term := .static "WordForge$Op" n "[I"
def nTab (n : String) (f : Nat → Int32) : List Cond := [.isRef (nT n), .arrayOf (nT n) .int, .eq (.length (nT n)) (.int 53)] ++ (List.range 53).map (fun j => Cond.eq (.elem (nT n) (.int (Int32.ofNat j))) (.int (f j)))
def nK (i : Nat) : Nat := ([15, 21, 23, 25, 27, 29] : List Nat).getD i 0
def nS (i : Nat) : Term := .string "WordForge$Vocabulary" (nK i)
def nV (i : Nat) : Term := .field (nS i) "java/lang/String" "value" "[B"
def nStr (i : Nat) : List Cond := [.exactly (nS i) "java/lang/String", .eq (.field (nS i) "java/lang/String" "coder" "B") (.int 0), .arrayOf (nV i) .byte, .eq (.length (nV i)) (.int (Int32.ofNat (lenS.getD i 0)))] ++ (List.range (lenS.getD i 0)).map (fun j => Cond.eq (.elem (nV i) (.int (Int32.ofNat j))) (.int ((bytS.getD i []).getD j 0)))
def nNe (i : Nat) : List Cond := (List.range i).map (fun j => Cond.not (.eq (nS j) (nS i)))
def nH : List Cond := [.count 1, .isRef (.arg 0), .arrayOf (.arg 0) .int, .le (.length (.arg 0)) (.int 1024), .eq (.static "java/lang/String" "COMPACT_STRINGS" "Z") (.int 1), .isRef (.static "jdk/internal/util/Preconditions" "SIOOBE_FORMATTER" "Ljava/util/function/BiFunction;"), .eq (.static "java/lang/StringUTF16" "$assertionsDisabled" "Z") (.int 1), .eq (.static "java/lang/StringUTF16" "HI_BYTE_SHIFT" "I") (.int 0), .eq (.static "java/lang/StringUTF16" "LO_BYTE_SHIFT" "I") (.int 8)]
def nE : List Cond := [.not (.eq (.arg 0) (nT "TAKES")), .not (.eq (.arg 0) (nT "GIVES"))]
def nB (i : Nat) : List Cond := nStr i ++ nNe i
def nL : List Cond := nH ++ (nTab "TAKES" tk_T ++ (nTab "GIVES" tk_G ++ (nB 0 ++ (nB 1 ++ (nB 2 ++ (nB 3 ++ (nB 4 ++ (nB 5 ++ nE))))))))
set_option maxRecDepth 100000 in
set_option maxHeartbeats 4000000 in
theorem flat_eq : flatC (Jvm.Cond.and given_1 narrow_1) = nL := by rfl
def vocB (o : Option (Nat → Int64)) : Bool := match o with
  | none => false
  | some w => (List.range 49).all (fun j => decide (w j = vkT j))
theorem voc_b : vocB fnX10_init = true := by decide +kernel
theorem voc_ok : ∃ w, fnX10_init = some w ∧ ∀ j, j < 49 → w j = vkT j := by
  have h := voc_b
  cases e : fnX10_init with
  | none => rw [e] at h; cases h
  | some w =>
    rw [e] at h
    refine ⟨w, rfl, fun j hj => ?_⟩
    have h2 : (List.range 49).all (fun j => decide (w j = vkT j)) = true := h
    exact of_decide_eq_true (List.all_eq_true.mp h2 j (List.mem_range.mpr hj))
