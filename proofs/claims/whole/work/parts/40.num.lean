/-! numbers: Int32 literals as nI, array words at nI -/
theorem q0 : (0 : Int32) = nI 0 := rfl
theorem q1 : (1 : Int32) = nI 1 := rfl
theorem q2 : (2 : Int32) = nI 2 := rfl
theorem q3 : (3 : Int32) = nI 3 := rfl
theorem q4 : (4 : Int32) = nI 4 := rfl
theorem q6 : (6 : Int32) = nI 6 := rfl
theorem q7 : (7 : Int32) = nI 7 := rfl
theorem q8 : (8 : Int32) = nI 8 := rfl
theorem q9 : (9 : Int32) = nI 9 := rfl
theorem q12 : (12 : Int32) = nI 12 := rfl
theorem q15 : (15 : Int32) = nI 15 := rfl
theorem q16 : (16 : Int32) = nI 16 := rfl
theorem q20 : (20 : Int32) = nI 20 := rfl
theorem q21 : (21 : Int32) = nI 21 := rfl
theorem q32 : (32 : Int32) = nI 32 := rfl
theorem q200 : (200 : Int32) = nI 200 := rfl
theorem q300 : (300 : Int32) = nI 300 := rfl
theorem q1000 : (1000 : Int32) = nI 1000 := rfl
theorem ga_n {α : Type} {n i : Nat} {f : Nat → α} (h : i < n) (hn : n < 2 ^ 31) : ga n f (nI i) = some (f i) := by
  rw [ga_in (vp_in_nI h hn), nI_clamp (by omega)]
theorem sa_n {n i : Nat} {f : Nat → Int32} {x : Int32} (h : i < n) (hn : n < 2 ^ 31) : sa n f (nI i) x = some (upd f i x) := by
  rw [sa_in (vp_in_nI h hn), nI_clamp (by omega)]
theorem sc_n {n i : Nat} {f : Nat → Int32} {x : Int32} (h : i < n) (hn : n < 2 ^ 31) : sc n f (nI i) x = some (upd f i (vp_nar .char x)) := by
  rw [sc_in (vp_in_nI h hn), nI_clamp (by omega)]
theorem sl_n {n i : Nat} {f : Nat → Int64} {x : Int64} (h : i < n) (hn : n < 2 ^ 31) : sl n f (nI i) x = some (vp_updL f i x) := by
  rw [sl_in (vp_in_nI h hn), nI_clamp (by omega)]
/-! the stack of the class -/
theorem pX7_put {v : Nat → Int32} {n : Nat} {x : Int32} (h : n < 32) : fnX7_put v (nI n) x = some (1, upd v n x, nI (n + 1)) := by
  unfold fnX7_put
  simp (disch := omega) only [q0, q1, q32, nI_ltI, nI_add, sa_n, bd1_s, Nat.not_lt_zero, h, if_true, if_false]
theorem pX7_put_full {v : Nat → Int32} {n : Nat} {x : Int32} (h : n = 32) : fnX7_put v (nI n) x = some (0, v, nI n) := by
  unfold fnX7_put
  subst h
  simp (disch := omega) only [q0, q32, nI_ltI, Nat.lt_irrefl, Nat.not_lt_zero, if_false]
theorem pX7_take {v : Nat → Int32} {n : Nat} (h : n < 32) : fnX7_take v (nI (n + 1)) = some (v n, nI n) := by
  unfold fnX7_take
  have h1 : ¬ n + 1 ≤ 0 := by omega
  have h2 : n + 1 ≤ 32 := by omega
  simp (disch := omega) only [q0, q1, q32, nI_leI, h1, h2, if_true, if_false, pk_sub, Nat.add_sub_cancel, ga_n, bd1_s]
/-! a literal beside a number -/
section
variable {a : Nat} (L : Int32) (k : Nat)
theorem ne_L (h : ¬ a = k) (hL : L = nI k := by rfl) (hk : k < 2 ^ 31 := by decide) (ha : a < 2 ^ 31 := by omega) : ¬ nI a = L := by subst hL; exact fun z => h ((nI_eq ha hk).mp z)
theorem lL_t (h : k ≤ a) (hL : L = nI k := by rfl) (hk : k < 2 ^ 31 := by decide) (ha : a < 2 ^ 31 := by omega) : L ≤ nI a := by subst hL; exact (nI_leI hk ha).mpr h
theorem lL_f (h : ¬ k ≤ a) (hL : L = nI k := by rfl) (hk : k < 2 ^ 31 := by decide) (ha : a < 2 ^ 31 := by omega) : ¬ L ≤ nI a := by subst hL; exact fun z => h ((nI_leI hk ha).mp z)
theorem lR_t (h : a ≤ k) (hL : L = nI k := by rfl) (hk : k < 2 ^ 31 := by decide) (ha : a < 2 ^ 31 := by omega) : nI a ≤ L := by subst hL; exact (nI_leI ha hk).mpr h
theorem lR_f (h : ¬ a ≤ k) (hL : L = nI k := by rfl) (hk : k < 2 ^ 31 := by decide) (ha : a < 2 ^ 31 := by omega) : ¬ nI a ≤ L := by subst hL; exact fun z => h ((nI_leI ha hk).mp z)
theorem sL_t (h : k < a) (hL : L = nI k := by rfl) (hk : k < 2 ^ 31 := by decide) (ha : a < 2 ^ 31 := by omega) : L < nI a := by subst hL; exact (nI_ltI hk ha).mpr h
theorem sL_f (h : ¬ k < a) (hL : L = nI k := by rfl) (hk : k < 2 ^ 31 := by decide) (ha : a < 2 ^ 31 := by omega) : ¬ L < nI a := by subst hL; exact fun z => h ((nI_ltI hk ha).mp z)
theorem sR_t (h : a < k) (hL : L = nI k := by rfl) (hk : k < 2 ^ 31 := by decide) (ha : a < 2 ^ 31 := by omega) : nI a < L := by subst hL; exact (nI_ltI ha hk).mpr h
theorem sR_f (h : ¬ a < k) (hL : L = nI k := by rfl) (hk : k < 2 ^ 31 := by decide) (ha : a < 2 ^ 31 := by omega) : ¬ nI a < L := by subst hL; exact fun z => h ((nI_ltI ha hk).mp z)
end
