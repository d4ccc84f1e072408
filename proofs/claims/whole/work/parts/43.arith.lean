/-! the arithmetic of the class (32 bits) and of the reference (64 bits, then cut) -/
theorem i6432 (a : Int32) : a.toInt64.toInt32 = a := Int32.toInt32_toInt64 a
/-- the sign of a xor -/
theorem xor_sign (a b : Int32) : 0 ≤ (a ^^^ b) ↔ (a < 0 ↔ b < 0) := by
  have key : ∀ x : Int32, x < 0 ↔ x.toBitVec.msb = true := by
    intro x
    rw [Int32.lt_iff_toInt_lt]
    show x.toBitVec.toInt < 0 ↔ _
    exact BitVec.toInt_neg_iff.trans (by rw [BitVec.msb_eq_true_iff_two_mul_ge])
  have h2 : 0 ≤ (a ^^^ b) ↔ ¬ (a ^^^ b) < 0 := by rw [Int32.not_lt]
  rw [h2, key, key, key]
  show ¬ ((a.toBitVec ^^^ b.toBitVec).msb = true) ↔ _
  rw [BitVec.msb_xor]
  cases a.toBitVec.msb <;> cases b.toBitVec.msb <;> simp
theorem lg_ge0 {a : Int32} : 0 ≤ lg_cmp a.toInt64 0 ↔ ¬ a < 0 := by
  rw [lg_cmp_ge, Int64.le_iff_toInt_le, Int32.toInt_toInt64, Int32.lt_iff_toInt_lt]
  show (0 : Int) ≤ _ ↔ ¬ _ < (0 : Int)
  omega
theorem div64 (a b : Int32) (hb : b ≠ 0) : (a.toInt64 / b.toInt64).toInt = a.toInt.tdiv b.toInt ∧ (a.toInt64 / b.toInt64).toInt32 = a / b := by
  have e : (a.toInt64 / b.toInt64).toInt = a.toInt.tdiv b.toInt := by
    rw [Int64.toInt_div_of_ne_left _ _ (fun h => by
      have := congrArg Int64.toInt h
      rw [Int32.toInt_toInt64] at this
      have l := a.le_toInt
      have : a.toInt = -9223372036854775808 := this
      omega), Int32.toInt_toInt64, Int32.toInt_toInt64]
  refine ⟨e, Int32.toInt_inj.mp ?_⟩
  rw [Int64.toInt_toInt32, e, Int32.toInt_div]
theorem rem64 (a b : Int32) (hb : b ≠ 0) : (a.toInt64 - a.toInt64 / b.toInt64 * b.toInt64).toInt = a.toInt.tmod b.toInt := by
  have e := (div64 a b hb).1
  have hb' : b.toInt ≠ 0 := fun h => hb (Int32.toInt_inj.mp h)
  have hm : a.toInt.tdiv b.toInt * b.toInt = a.toInt - a.toInt.tmod b.toInt := by
    have := Int.mul_tdiv_add_tmod a.toInt b.toInt
    rw [Int.mul_comm] at this
    omega
  have hr : a.toInt.tmod b.toInt ≤ 2 ^ 31 ∧ - 2 ^ 31 ≤ a.toInt.tmod b.toInt := by
    have h1 : (a.toInt.tmod b.toInt).natAbs < b.toInt.natAbs := by rw [Int.natAbs_tmod]; exact Nat.mod_lt _ (Int.natAbs_pos.mpr hb')
    have l1 := b.le_toInt
    have l2 := b.toInt_lt
    omega
  have l1 := a.le_toInt
  have l2 := a.toInt_lt
  rw [Int64.toInt_sub, Int64.toInt_mul, e, Int32.toInt_toInt64, Int32.toInt_toInt64, hm]
  rw [Int.bmod_eq_of_le (n := a.toInt - a.toInt.tmod b.toInt) (by omega) (by omega)]
  rw [Int.bmod_eq_of_le (by omega) (by omega)]
  omega
/-- the class's quotient rounded down, and the reference's -/
theorem floor_sim (a b : Int32) (hb : b ≠ 0) : ∃ (r : Int32) (v : Int64), fnJ9_floorDiv_7cf53 a b = some r ∧ fnX12_floor a.toInt64 b.toInt64 = some v ∧ v.toInt32 = r := by
  obtain ⟨e1, e2⟩ := div64 a b hb
  have e3 := rem64 a b hb
  have hb' : b.toInt ≠ 0 := fun h => hb (Int32.toInt_inj.mp h)
  have hb64 : ¬ b.toInt64 = 0 := fun h => hb' (by rw [← Int32.toInt_toInt64, h]; rfl)
  have sub1 : (a.toInt64 / b.toInt64 - 1).toInt32 = a / b - 1 := by rw [Int64.toInt32_sub, e2]; rfl
  unfold fnJ9_floorDiv_7cf53 fnX12_floor
  rw [nz_f hb, nz_f hb64, nz_f hb64]
  have hz : lg_cmp (a.toInt64 - a.toInt64 / b.toInt64 * b.toInt64) 0 = 0 ↔ a.toInt.tmod b.toInt = 0 := by
    rw [lg0, ← Int64.toInt_inj, e3]
    exact Iff.rfl
  have hq : (a < 0 ↔ ¬ b < 0) → ((a / b) * b = a ↔ a.toInt.tmod b.toInt = 0) := by
    intro hs
    have hm := Int.tdiv_mul_add_tmod a.toInt b.toInt
    have h1 : (a.toInt.tmod b.toInt).natAbs < b.toInt.natAbs := by rw [Int.natAbs_tmod]; exact Nat.mod_lt _ (Int.natAbs_pos.mpr hb')
    have h2 : (a.toInt.tdiv b.toInt * b.toInt).natAbs ≤ a.toInt.natAbs := by
      rw [Int.natAbs_mul, Int.natAbs_tdiv]
      exact Nat.div_mul_le_self _ _
    have hd : (a / b).toInt = a.toInt.tdiv b.toInt := by
      by_cases hb1 : b = -1
      · refine Int32.toInt_div_of_ne_left a b (fun h => ?_)
        have : a < 0 := by rw [h]; decide
        exact hs.mp this (by rw [hb1]; decide)
      · exact Int32.toInt_div_of_ne_right a b hb1
    have l1 := a.le_toInt
    have l2 := a.toInt_lt
    have l3 := b.le_toInt
    have l4 := b.toInt_lt
    have hp : ((a / b) * b).toInt = a.toInt.tdiv b.toInt * b.toInt := by
      rw [Int32.toInt_mul, hd]
      exact Int.bmod_eq_of_le (by omega) (by omega)
    rw [← Int32.toInt_inj, hp]
    omega
  by_cases hT : a.toInt.tmod b.toInt = 0
  · rw [if_pos (hz.mpr hT)]
    unfold fnX12_floor_45
    by_cases hx : 0 ≤ (a ^^^ b)
    · rw [if_pos hx]; exact ⟨_, _, rfl, rfl, e2⟩
    · rw [if_neg hx, if_pos ((hq (by
        have := mt (xor_sign a b).mpr hx
        by_cases h : a < 0 <;> by_cases h' : b < 0 <;> simp [h, h'] at this ⊢)).mpr hT)]
      exact ⟨_, _, rfl, rfl, e2⟩
  · rw [if_neg (fun z => hT (hz.mp z))]
    unfold fnX12_floor_24 fnX12_floor_35 fnX12_floor_45
    by_cases hA : a < 0 <;> by_cases hB : b < 0
    · rw [if_pos ((xor_sign a b).mpr ⟨fun _ => hB, fun _ => hA⟩), if_neg (fun z => lg_ge0.mp z hA), if_neg (fun z => lg_ge0.mp z hB), if_pos rfl]
      exact ⟨_, _, rfl, rfl, e2⟩
    · rw [if_neg (fun z => hB (((xor_sign a b).mp z).mp hA)), if_neg (fun z => hT ((hq ⟨fun _ => hB, fun _ => hA⟩).mp z)), if_neg (fun z => lg_ge0.mp z hA), if_pos (lg_ge0.mpr hB), if_neg (by decide)]
      exact ⟨_, _, rfl, rfl, sub1⟩
    · rw [if_neg (fun z => hA (((xor_sign a b).mp z).mpr hB)), if_neg (fun z => hT ((hq ⟨fun h => absurd h hA, fun h => absurd hB h⟩).mp z)), if_pos (lg_ge0.mpr hA), if_neg (fun z => lg_ge0.mp z hB), if_neg (by decide)]
      exact ⟨_, _, rfl, rfl, sub1⟩
    · rw [if_pos ((xor_sign a b).mpr ⟨fun h => absurd h hA, fun h => absurd h hB⟩), if_pos (lg_ge0.mpr hA), if_pos (lg_ge0.mpr hB), if_pos rfl]
      exact ⟨_, _, rfl, rfl, e2⟩
