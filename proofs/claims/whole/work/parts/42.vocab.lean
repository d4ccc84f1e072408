/-! the 49 words -/
def vkL : List Int64 := [1653488, 211597296, 243134704, 234730226, 1882100, 1815792, 245199339, 133774064, 27057207912, 43, 45, 42, 47, 1800164, 1799406, 1798392, 1603428, 14322, 1980402, 3741941658484, 3948100088692, 61, 60, 62, 3806900812389, 1601907, 3637549562228, 6205, 6204, 64, 33, 5537, 46, 13542, 213596645, 244986606, 26520188142, 31639549164, 26255848686, 32163657317, 3944358703348, 12911, 228325360, 105, 213791988, 504874458200549, 58, 59, 3534730425076]
def vkT (j : Nat) : Int64 := vkL.getD j 0
/-- the class's number of the reference's plain word -/
def piL : List Nat := [0, 1, 2, 3, 4, 5, 6, 7, 8, 9, 10, 11, 12, 13, 24, 25, 14, 15, 16, 17, 18, 26, 19, 20, 21, 22, 23, 27, 28, 29, 30, 31, 32]
def piT (j : Nat) : Nat := piL.getD j 0
theorem lg0 {a b : Int64} : lg_cmp a b = 0 ↔ a = b := by
  unfold lg_cmp
  by_cases h1 : a > b
  · rw [if_pos h1]
    constructor
    · intro z; exact absurd z (by decide)
    · intro z; subst z; exact absurd h1 Int64.lt_irrefl
  · rw [if_neg h1]
    by_cases h2 : a = b
    · rw [if_pos h2]; exact ⟨fun _ => h2, fun _ => rfl⟩
    · rw [if_neg h2]
      exact ⟨fun z => absurd z (by decide), fun z => absurd z h2⟩
/-- the class's search: the first place that holds v -/
theorem pX10_find2 {K : Nat → Int64} {v : Int64} {i : Nat} (hi : i < 49) (h : K i = v) : ∀ (d j f : Nat), j + d = i → d < f → (∀ q, j ≤ q → q < i → K q ≠ v) → fnX10_find_2 K f v (nI j) = some (nI i) := by
  intro d
  induction d with
  | zero =>
    intro j f h1 h2 h3
    obtain ⟨f, rfl⟩ : ∃ g, f = g + 1 := ⟨f - 1, by omega⟩
    have e : j = i := by omega
    subst e
    rw [fnX10_find_2, if_neg (lL_f 49 49 (by omega)), ga_n hi (by omega), bd1_s, if_pos (lg0.mpr h)]
  | succ d ih =>
    intro j f h1 h2 h3
    obtain ⟨f, rfl⟩ : ∃ g, f = g + 1 := ⟨f - 1, by omega⟩
    rw [fnX10_find_2, if_neg (lL_f 49 49 (by omega)), ga_n (by omega) (by omega), bd1_s, if_neg (fun z => h3 j (by omega) (by omega) (lg0.mp z)), nI_1]
    exact ih (j + 1) f (by omega) (by omega) (fun q a b => h3 q (by omega) b)
theorem pX10_find0 {K : Nat → Int64} {v : Int64} : ∀ (d j f : Nat), j + d = 49 → d < f → (∀ q, j ≤ q → q < 49 → K q ≠ v) → fnX10_find_2 K f v (nI j) = some 52 := by
  intro d
  induction d with
  | zero =>
    intro j f h1 h2 h3
    obtain ⟨f, rfl⟩ : ∃ g, f = g + 1 := ⟨f - 1, by omega⟩
    rw [fnX10_find_2, if_pos (lL_t 49 49 (by omega))]
  | succ d ih =>
    intro j f h1 h2 h3
    obtain ⟨f, rfl⟩ : ∃ g, f = g + 1 := ⟨f - 1, by omega⟩
    rw [fnX10_find_2, if_neg (lL_f 49 49 (by omega)), ga_n (by omega) (by omega), bd1_s, if_neg (fun z => h3 j (by omega) (by omega) (lg0.mp z)), nI_1]
    exact ih (j + 1) f (by omega) (by omega) (fun q a b => h3 q (by omega) b)
theorem pX10_find {K : Nat → Int64} (hK : ∀ j, j < 49 → K j = vkT j) {v : Int64} {i : Nat} (hi : i < 49) (h : vkT i = v) (hne : ∀ q, q < i → vkT q ≠ v) : fnX10_find K v = some (nI i) :=
  pX10_find2 hi (by rw [hK i hi]; exact h) i 0 fuel_ (by omega) (by unfold fuel_; omega) (fun q _ b => by rw [hK q (by omega)]; exact hne q b)
theorem pX10_none {K : Nat → Int64} (hK : ∀ j, j < 49 → K j = vkT j) {v : Int64} (hne : ∀ q, q < 49 → vkT q ≠ v) : fnX10_find K v = some 52 :=
  pX10_find0 49 0 fuel_ (by omega) (by unfold fuel_; omega) (fun q _ b => by rw [hK q b]; exact hne q b)
theorem vk_inj : ∀ i, i < 49 → ∀ q, q < i → vkT q ≠ vkT i := by decide +kernel
/-- what the class finds, and what the reference says, of each key -/
theorem vk_plain : ∀ p, p < 33 → fnX12_plain (vkT (piT p)) = some (nI p) ∧ piT p ≤ 32 := by decide +kernel
theorem vk_pi : ∀ i, i < 33 → ∃ p, p < 33 ∧ piT p = i := by decide +kernel
theorem vk_control : ∀ c, c < 13 → fnX12_plain (vkT (33 + c)) = some (-1) ∧ fnX12_control (vkT (33 + c)) = some (nI c) := by decide +kernel
theorem vk_marks : ∀ c, c < 3 → fnX12_plain (vkT (46 + c)) = some (-1) ∧ fnX12_control (vkT (46 + c)) = some (-1) := by decide +kernel
theorem vk_plc : ∀ p, p < 33 → fnX12_control (vkT p) = some (-1) := by decide +kernel
theorem vk_m46 : vkT 46 = 58 := by decide +kernel
theorem vk_m47 : vkT 47 = 59 := by decide +kernel
theorem vk_m48 : vkT 48 = 3534730425076 := by decide +kernel
theorem vk_noplain {v : Int64} (h : ∀ q, q < 49 → vkT q ≠ v) : fnX12_plain v = some (-1) := by
  unfold fnX12_plain
  rw [if_neg (fun z => h 0 (by decide) (lg0.mp z : v = (1653488 : Int64)).symm)]
  rw [if_neg (fun z => h 1 (by decide) (lg0.mp z : v = (211597296 : Int64)).symm)]
  rw [if_neg (fun z => h 2 (by decide) (lg0.mp z : v = (243134704 : Int64)).symm)]
  rw [if_neg (fun z => h 3 (by decide) (lg0.mp z : v = (234730226 : Int64)).symm)]
  rw [if_neg (fun z => h 4 (by decide) (lg0.mp z : v = (1882100 : Int64)).symm)]
  rw [if_neg (fun z => h 5 (by decide) (lg0.mp z : v = (1815792 : Int64)).symm)]
  rw [if_neg (fun z => h 6 (by decide) (lg0.mp z : v = (245199339 : Int64)).symm)]
  rw [if_neg (fun z => h 7 (by decide) (lg0.mp z : v = (133774064 : Int64)).symm)]
  rw [if_neg (fun z => h 8 (by decide) (lg0.mp z : v = (27057207912 : Int64)).symm)]
  rw [if_neg (fun z => h 9 (by decide) (lg0.mp z : v = (43 : Int64)).symm)]
  rw [if_neg (fun z => h 10 (by decide) (lg0.mp z : v = (45 : Int64)).symm)]
  rw [if_neg (fun z => h 11 (by decide) (lg0.mp z : v = (42 : Int64)).symm)]
  rw [if_neg (fun z => h 12 (by decide) (lg0.mp z : v = (47 : Int64)).symm)]
  rw [if_neg (fun z => h 13 (by decide) (lg0.mp z : v = (1800164 : Int64)).symm)]
  rw [if_neg (fun z => h 24 (by decide) (lg0.mp z : v = (3806900812389 : Int64)).symm)]
  rw [if_neg (fun z => h 25 (by decide) (lg0.mp z : v = (1601907 : Int64)).symm)]
  rw [if_neg (fun z => h 14 (by decide) (lg0.mp z : v = (1799406 : Int64)).symm)]
  rw [if_neg (fun z => h 15 (by decide) (lg0.mp z : v = (1798392 : Int64)).symm)]
  rw [if_neg (fun z => h 16 (by decide) (lg0.mp z : v = (1603428 : Int64)).symm)]
  rw [if_neg (fun z => h 17 (by decide) (lg0.mp z : v = (14322 : Int64)).symm)]
  rw [if_neg (fun z => h 18 (by decide) (lg0.mp z : v = (1980402 : Int64)).symm)]
  rw [if_neg (fun z => h 26 (by decide) (lg0.mp z : v = (3637549562228 : Int64)).symm)]
  rw [if_neg (fun z => h 19 (by decide) (lg0.mp z : v = (3741941658484 : Int64)).symm)]
  rw [if_neg (fun z => h 20 (by decide) (lg0.mp z : v = (3948100088692 : Int64)).symm)]
  rw [if_neg (fun z => h 21 (by decide) (lg0.mp z : v = (61 : Int64)).symm)]
  rw [if_neg (fun z => h 22 (by decide) (lg0.mp z : v = (60 : Int64)).symm)]
  rw [if_neg (fun z => h 23 (by decide) (lg0.mp z : v = (62 : Int64)).symm)]
  rw [if_neg (fun z => h 27 (by decide) (lg0.mp z : v = (6205 : Int64)).symm)]
  rw [if_neg (fun z => h 28 (by decide) (lg0.mp z : v = (6204 : Int64)).symm)]
  rw [if_neg (fun z => h 29 (by decide) (lg0.mp z : v = (64 : Int64)).symm)]
  rw [if_neg (fun z => h 30 (by decide) (lg0.mp z : v = (33 : Int64)).symm)]
  rw [if_neg (fun z => h 31 (by decide) (lg0.mp z : v = (5537 : Int64)).symm)]
  rw [if_neg (fun z => h 32 (by decide) (lg0.mp z : v = (46 : Int64)).symm)]
theorem vk_nocontrol {v : Int64} (h : ∀ q, q < 49 → vkT q ≠ v) : fnX12_control v = some (-1) := by
  unfold fnX12_control
  rw [if_neg (fun z => h 33 (by decide) (lg0.mp z : v = (13542 : Int64)).symm)]
  rw [if_neg (fun z => h 34 (by decide) (lg0.mp z : v = (213596645 : Int64)).symm)]
  rw [if_neg (fun z => h 35 (by decide) (lg0.mp z : v = (244986606 : Int64)).symm)]
  rw [if_neg (fun z => h 36 (by decide) (lg0.mp z : v = (26520188142 : Int64)).symm)]
  rw [if_neg (fun z => h 37 (by decide) (lg0.mp z : v = (31639549164 : Int64)).symm)]
  rw [if_neg (fun z => h 38 (by decide) (lg0.mp z : v = (26255848686 : Int64)).symm)]
  rw [if_neg (fun z => h 39 (by decide) (lg0.mp z : v = (32163657317 : Int64)).symm)]
  rw [if_neg (fun z => h 40 (by decide) (lg0.mp z : v = (3944358703348 : Int64)).symm)]
  rw [if_neg (fun z => h 41 (by decide) (lg0.mp z : v = (12911 : Int64)).symm)]
  rw [if_neg (fun z => h 42 (by decide) (lg0.mp z : v = (228325360 : Int64)).symm)]
  rw [if_neg (fun z => h 43 (by decide) (lg0.mp z : v = (105 : Int64)).symm)]
  rw [if_neg (fun z => h 44 (by decide) (lg0.mp z : v = (213791988 : Int64)).symm)]
  rw [if_neg (fun z => h 45 (by decide) (lg0.mp z : v = (504874458200549 : Int64)).symm)]
