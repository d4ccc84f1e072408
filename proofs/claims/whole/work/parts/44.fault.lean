/-! the fault of a step, class side -/
def tkN (j : Nat) : Nat := ([1, 1, 2, 2, 3, 2, 2, 1, 0, 2, 2, 2, 2, 2, 2, 2, 2, 2, 2, 2, 2, 2, 2, 2, 1, 1, 1, 1, 1, 1, 2, 2, 1, 1, 0, 0, 0, 1, 0, 1, 0, 2, 0, 0, 0, 0, 0, 0, 0, 0, 0, 0, 0] : List Nat).getD j 0
def gvN (j : Nat) : Nat := ([2, 0, 2, 3, 3, 1, 3, 2, 1, 1, 1, 1, 1, 1, 1, 1, 1, 1, 1, 1, 1, 1, 1, 1, 1, 1, 1, 1, 1, 1, 0, 0, 0, 0, 0, 0, 0, 0, 0, 0, 0, 0, 0, 1, 0, 0, 0, 0, 0, 1, 0, 0, 0] : List Nat).getD j 0
theorem tk_N : ∀ o, o < 53 → tk_T o = nI (tkN o) ∧ tkN o ≤ 3 := by decide +kernel
theorem gv_N : ∀ o, o < 53 → tk_G o = nI (gvN o) ∧ gvN o ≤ 3 := by decide +kernel
theorem pX6_takes {o : Nat} (h : o < 53) : fnX6_takes (nI o) = some (nI (tkN o)) := by
  unfold fnX6_takes
  rw [if_neg (nI_pos (by omega)), if_neg (lL_f 53 53 (by omega)), ga_n h (by omega), bd1_s, (tk_N o h).1]
theorem pX6_gives {o : Nat} (h : o < 53) : fnX6_gives (nI o) = some (nI (gvN o)) := by
  unfold fnX6_gives
  rw [if_neg (nI_pos (by omega)), if_neg (lL_f 53 53 (by omega)), ga_n h (by omega), bd1_s, (gv_N o h).1]
theorem pX7_top {v : Nat → Int32} {n k : Nat} (hn : n ≤ 32) (hk : k < n) : fnX7_fromTop v (nI n) (nI k) = some (v (n - 1 - k)) := by
  unfold fnX7_fromTop
  rw [if_neg (nI_pos (by omega)), if_neg (fun z => absurd ((nI_leI (by omega) (by omega)).mp z) (by omega)), if_neg (sL_f 32 32 (by omega))]
  have e1 : nI n - 1 = nI (n - 1) := pk_sub (a := n) (b := 1) (by omega)
  rw [e1, pk_sub (by omega), ga_n (by omega) (by omega), bd1_s]
theorem pX7_topN {v : Nat → Int32} {n k : Nat} (hn : n ≤ 32) (hk : n ≤ k) (hk2 : k < 100) : fnX7_fromTop v (nI n) (nI k) = some 0 := by
  unfold fnX7_fromTop
  rw [if_neg (nI_pos (by omega)), if_pos ((nI_leI (by omega) (by omega)).mpr hk)]
/-- value k from the top, 0 if there is none -/
def tp (v : Nat → Int32) (n k : Nat) : Int32 := if k < n then v (n - 1 - k) else 0
theorem pX7_tp {v : Nat → Int32} {n k : Nat} (hn : n ≤ 32) (hk2 : k < 100) : fnX7_fromTop v (nI n) (nI k) = some (tp v n k) := by
  unfold tp
  by_cases h : k < n
  · rw [if_pos h]; exact pX7_top hn h
  · rw [if_neg h]; exact pX7_topN hn (by omega) hk2
def s129 (o n : Nat) (top : Int32) : Nat := if n - tkN o + (if o = 7 ∧ top = 0 then 1 else gvN o) ≤ 32 then 0 else 4
def s108 (o n lo : Nat) (top : Int32) : Nat := if o = 41 then (if lo < 12 then s129 o n top else 7) else s129 o n top
def s84 (o n b lo : Nat) (top : Int32) : Nat := if o = 50 ∨ o = 45 then (if b < 12 then s108 o n lo top else 7) else s108 o n lo top
def s66 (o n b lo : Nat) (top : Int32) : Nat := if o = 12 ∨ o = 13 then (if top = 0 then 5 else s84 o n b lo top) else s84 o n b lo top
def s0 (o n b lo : Nat) (top : Int32) : Nat := if o = 29 ∨ o = 30 ∨ o = 31 then (if top < 0 ∨ 16 ≤ top then 6 else s66 o n b lo top) else s66 o n b lo top
/-- the fault that the step would meet -/
def cfl (o st n b lo : Nat) (top : Int32) : Nat := if st < 1000 then (if tkN o ≤ n then s0 o n b lo top else 3) else 8
section
variable {lo b st n o : Nat} {v : Nat → Int32} {top : Int32}
theorem p157 (ho : o < 53) (hn : n ≤ 32) (ht : tkN o ≤ n) {g : Nat} (hg : g ≤ 3) : fnX5_faultOf_157 (nI lo) (nI b) (nI st) v (nI n) (nI o) (nI g) = some (nI (if n - tkN o + g ≤ 32 then 0 else 4)) := by
  unfold fnX5_faultOf_157 fnX7_size
  rw [bd1_s, pX6_takes ho, bd1_s, pk_sub ht, nI_add]
  by_cases h : n - tkN o + g ≤ 32
  · rw [if_pos (lR_t 32 32 h), if_pos h]; rfl
  · rw [if_neg (lR_f 32 32 h), if_neg h]; rfl
theorem p129 (ho : o < 53) (hn : n ≤ 32) (ht : tkN o ≤ n) : fnX5_faultOf_129 (nI lo) (nI b) (nI st) v (nI n) (nI o) top = some (nI (s129 o n top)) := by
  have e143 : fnX5_faultOf_143 (nI lo) (nI b) (nI st) v (nI n) (nI o) = some (nI (if n - tkN o + gvN o ≤ 32 then 0 else 4)) := by
    unfold fnX5_faultOf_143 fnX5_faultOf_144
    rw [if_pos rfl, pX6_gives ho, bd1_s, p157 ho hn ht (gv_N o ho).2]
  unfold fnX5_faultOf_129 s129
  by_cases h7 : o = 7
  · rw [if_pos (by rw [h7]; rfl)]
    by_cases hz : top = 0
    · rw [if_pos hz, if_pos (show o = 7 ∧ top = 0 from ⟨h7, hz⟩)]
      unfold fnX5_faultOf_144
      rw [if_neg (by decide)]
      exact p157 (g := 1) ho hn ht (by omega)
    · rw [if_neg hz, if_neg (show ¬ (o = 7 ∧ top = 0) from fun z => hz z.2), e143]
  · rw [if_neg (ne_L 7 7 h7), if_neg (show ¬ (o = 7 ∧ top = 0) from fun z => h7 z.1), e143]
theorem p108 (ho : o < 53) (hn : n ≤ 32) (ht : tkN o ≤ n) (hlo : lo ≤ 12) : fnX5_faultOf_108 (nI lo) (nI b) (nI st) v (nI n) (nI o) top = some (nI (s108 o n lo top)) := by
  unfold fnX5_faultOf_108 s108 fnX4_openCount
  by_cases h7 : o = 41
  · rw [if_pos (by rw [h7]; rfl), if_pos h7, bd1_s]
    by_cases hz : lo < 12
    · rw [if_pos (sR_t 12 12 hz), if_pos hz, p129 ho hn ht]
    · rw [if_neg (sR_f 12 12 hz), if_neg hz]; rfl
  · rw [if_neg (ne_L 41 41 h7), if_neg h7, p129 ho hn ht]
theorem p84 (ho : o < 53) (hn : n ≤ 32) (ht : tkN o ≤ n) (hlo : lo ≤ 12) (hb : b ≤ 12) : fnX5_faultOf_84 (nI lo) (nI b) (nI st) v (nI n) (nI o) top = some (nI (s84 o n b lo top)) := by
  have e96 : fnX5_faultOf_96 (nI lo) (nI b) (nI st) v (nI n) (nI o) top = some (nI (if b < 12 then s108 o n lo top else 7)) := by
    unfold fnX5_faultOf_96
    by_cases hz : b < 12
    · rw [if_pos (sR_t 12 12 hz), if_pos hz, p108 ho hn ht hlo]
    · rw [if_neg (sR_f 12 12 hz), if_neg hz]; rfl
  unfold fnX5_faultOf_84 s84
  by_cases h1 : o = 50
  · rw [if_pos (by rw [h1]; rfl), if_pos (Or.inl h1), e96]
  · rw [if_neg (ne_L 50 50 h1)]
    by_cases h2 : o = 45
    · rw [if_pos (by rw [h2]; rfl), if_pos (Or.inr h2), e96]
    · rw [if_neg (ne_L 45 45 h2), if_neg (fun z => z.elim h1 h2), p108 ho hn ht hlo]
theorem p66 (ho : o < 53) (hn : n ≤ 32) (ht : tkN o ≤ n) (hlo : lo ≤ 12) (hb : b ≤ 12) : fnX5_faultOf_66 (nI lo) (nI b) (nI st) v (nI n) (nI o) top = some (nI (s66 o n b lo top)) := by
  have e78 : fnX5_faultOf_78 (nI lo) (nI b) (nI st) v (nI n) (nI o) top = some (nI (if top = 0 then 5 else s84 o n b lo top)) := by
    unfold fnX5_faultOf_78
    by_cases hz : top = 0
    · rw [if_pos hz, if_pos hz]; rfl
    · rw [if_neg hz, if_neg hz, p84 ho hn ht hlo hb]
  unfold fnX5_faultOf_66 s66
  by_cases h1 : o = 12
  · rw [if_pos (by rw [h1]; rfl), if_pos (Or.inl h1), e78]
  · rw [if_neg (ne_L 12 12 h1)]
    by_cases h2 : o = 13
    · rw [if_pos (by rw [h2]; rfl), if_pos (Or.inr h2), e78]
    · rw [if_neg (ne_L 13 13 h2), if_neg (fun z => z.elim h1 h2), p84 ho hn ht hlo hb]
theorem p56 (ho : o < 53) (hn : n ≤ 32) (ht : tkN o ≤ n) (hlo : lo ≤ 12) (hb : b ≤ 12) : fnX5_faultOf_56 (nI lo) (nI b) (nI st) v (nI n) (nI o) top = some (nI (if top < 0 ∨ 16 ≤ top then 6 else s66 o n b lo top)) := by
  unfold fnX5_faultOf_56 fnX5_hasCell
  by_cases h1 : top < 0
  · rw [if_pos h1, bd1_s, if_pos rfl, if_pos (Or.inl h1)]; rfl
  · rw [if_neg h1]
    by_cases h2 : 16 ≤ top
    · rw [if_pos h2, bd1_s, if_pos rfl, if_pos (Or.inr h2)]; rfl
    · rw [if_neg h2, bd1_s, if_neg (by decide), if_neg (fun z => z.elim h1 h2), p66 ho hn ht hlo hb]
theorem pX5_faultOf (ho : o < 53) (hn : n ≤ 32) (hlo : lo ≤ 12) (hb : b ≤ 12) (hst : st ≤ 1000) : fnX5_faultOf (nI lo) (nI b) (nI st) v (nI n) (nI o) = some (nI (cfl o st n b lo (tp v n 0))) := by
  unfold fnX5_faultOf cfl
  rw [q0, pX7_tp hn (by omega), bd1_s]
  by_cases h1 : st < 1000
  · rw [if_pos (sR_t 1000 1000 h1), if_pos h1]
    unfold fnX7_size
    rw [bd1_s, pX6_takes ho, bd1_s]
    by_cases h2 : tkN o ≤ n
    · rw [if_pos ((nI_leI (by omega) (by omega)).mpr h2), if_pos h2]
      unfold s0
      by_cases g1 : o = 29
      · rw [if_pos (by rw [g1]; rfl), if_pos (Or.inl g1), p56 ho hn h2 hlo hb]
      · rw [if_neg (ne_L 29 29 g1)]
        by_cases g2 : o = 30
        · rw [if_pos (by rw [g2]; rfl), if_pos (Or.inr (Or.inl g2)), p56 ho hn h2 hlo hb]
        · rw [if_neg (ne_L 30 30 g2)]
          by_cases g3 : o = 31
          · rw [if_pos (by rw [g3]; rfl), if_pos (Or.inr (Or.inr g3)), p56 ho hn h2 hlo hb]
          · rw [if_neg (ne_L 31 31 g3), if_neg (fun z => z.elim g1 (fun z => z.elim g2 g3)), p66 ho hn h2 hlo hb]
    · have := (tk_N o ho).2
      rw [if_neg (fun z => h2 ((nI_leI (by omega) (by omega)).mp z)), if_neg h2]; rfl
  · rw [if_neg (sR_f 1000 1000 h1), if_neg h1]; rfl
end
