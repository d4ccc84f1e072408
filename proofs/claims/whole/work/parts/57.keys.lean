/-! keys of words as natural numbers -/
def kyN (t : Nat → Nat) : Nat → Nat → Nat → Nat
  | 0, _, a => a
  | k + 1, q, a => kyN t k (q + 1) (a * 128 + t q)
theorem kyN_snoc (t : Nat → Nat) : ∀ (k q a : Nat), kyN t (k + 1) q a = kyN t k q a * 128 + t (q + k) := by
  intro k
  induction k with
  | zero => intro q a; rfl
  | succ k ih =>
    intro q a
    show kyN t (k + 1) (q + 1) (a * 128 + t q) = kyN t k (q + 1) (a * 128 + t q) * 128 + t (q + (k + 1))
    rw [ih, show q + 1 + k = q + (k + 1) by omega]
theorem kyN_lt {t : Nat → Nat} : ∀ (k q : Nat), (∀ j, q ≤ j → j < q + k → t j < 128) → kyN t k q 0 < 128 ^ k := by
  intro k
  induction k with
  | zero => intro q _; exact Nat.one_pos
  | succ k ih =>
    intro q h
    have h1 := ih q (fun j a b => h j a (by omega))
    have h2 := h (q + k) (by omega) (by omega)
    rw [kyN_snoc, Nat.pow_succ]
    omega
theorem kyN_ge {t : Nat → Nat} : ∀ (k q : Nat), (∀ j, q ≤ j → j < q + (k + 1) → 1 ≤ t j) → 128 ^ k ≤ kyN t (k + 1) q 0 := by
  intro k
  induction k with
  | zero => intro q h; rw [kyN_snoc]; have := h q (by omega) (by omega); show 1 ≤ 0 * 128 + t (q + 0); rw [Nat.add_zero]; omega
  | succ k ih =>
    intro q h
    have h1 := ih q (fun j a b => h j a (by omega))
    rw [kyN_snoc, Nat.pow_succ]
    omega
/-- equal keys: equal words -/
theorem kyN_inj {t u : Nat → Nat} : ∀ (k l q r : Nat), (∀ j, q ≤ j → j < q + k → 1 ≤ t j ∧ t j < 128) → (∀ j, r ≤ j → j < r + l → 1 ≤ u j ∧ u j < 128) → kyN t k q 0 = kyN u l r 0 → k = l ∧ ∀ j, j < k → t (q + j) = u (r + j) := by
  intro k
  induction k with
  | zero =>
    intro l q r ht hu h
    cases l with
    | zero => exact ⟨rfl, fun j hj => absurd hj (by omega)⟩
    | succ l =>
      have := hu (r + l) (by omega) (by omega)
      rw [kyN_snoc] at h
      have h0 : kyN t 0 q 0 = 0 := rfl
      omega
  | succ k ih =>
    intro l q r ht hu h
    cases l with
    | zero =>
      have := ht (q + k) (by omega) (by omega)
      rw [kyN_snoc] at h
      have h0 : kyN u 0 r 0 = 0 := rfl
      omega
    | succ l =>
      have a1 := ht (q + k) (by omega) (by omega)
      have a2 := hu (r + l) (by omega) (by omega)
      rw [kyN_snoc, kyN_snoc] at h
      obtain ⟨e, f⟩ := ih l q r (fun j a b => ht j a (by omega)) (fun j a b => hu j a (by omega)) (by omega)
      subst e
      refine ⟨rfl, fun j hj => ?_⟩
      by_cases ej : j = k
      · subst ej; omega
      · exact f j (by omega)
/-- a word of k chars from q on: no blank, each a char -/
def Wd (tx : Nat → Int32) (k q : Nat) : Prop := ∀ j, q ≤ j → j < q + k → ∃ c, 33 ≤ c ∧ c ≤ 126 ∧ tx j = nI c
def ch (tx : Nat → Int32) (j : Nat) : Nat := (tx j).toNatClampNeg
theorem ch_of {tx : Nat → Int32} {j c : Nat} (h : tx j = nI c) (hc : c ≤ 126) : ch tx j = c := by unfold ch; rw [h, nI_clamp (by omega)]
theorem Wd_ch {tx : Nat → Int32} {k q : Nat} (h : Wd tx k q) : ∀ j, q ≤ j → j < q + k → 33 ≤ ch tx j ∧ ch tx j ≤ 126 ∧ tx j = nI (ch tx j) := by
  intro j a b
  obtain ⟨c, c1, c2, c3⟩ := h j a b
  rw [ch_of c3 c2]
  exact ⟨c1, c2, c3⟩
theorem nI_64 {c : Nat} (h : c ≤ 126) : (nI c).toInt64 = Int64.ofNat c := by
  have : ∀ c, c ≤ 126 → (nI c).toInt64 = Int64.ofNat c := by decide +kernel
  exact this c h
theorem kyf_N {tx : Nat → Int32} : ∀ (k q a : Nat), Wd tx k q → kyf tx k q (Int64.ofNat a) = Int64.ofNat (kyN (ch tx) k q a) := by
  intro k
  induction k with
  | zero => intro q a _; rfl
  | succ k ih =>
    intro q a h
    obtain ⟨c1, c2, c3⟩ := Wd_ch h q (by omega) (by omega)
    show kyf tx k (q + 1) ((Int64.ofNat a * 128) + (tx q).toInt64) = Int64.ofNat (kyN (ch tx) k (q + 1) (a * 128 + ch tx q))
    rw [← ih (q + 1) _ (fun j x y => h j (by omega) (by omega)), c3, nI_64 c2]
    congr 1
    rw [Int64.ofNat_add, Int64.ofNat_mul]
    rfl
theorem i64_inj {a b : Nat} (ha : a < 2 ^ 63) (hb : b < 2 ^ 63) (h : Int64.ofNat a = Int64.ofNat b) : a = b := by
  have h1 : (Int64.ofNat a).toInt = a := Int64.toInt_ofNat_of_lt ha
  have h2 : (Int64.ofNat b).toInt = b := Int64.toInt_ofNat_of_lt hb
  rw [h] at h1
  omega
/-- the key's number -/
def kyn (tx : Nat → Int32) (k q : Nat) : Nat := kyN (ch tx) k q 0
theorem kyn_lt {tx : Nat → Int32} {k q : Nat} (h : Wd tx k q) : kyn tx k q < 128 ^ k := kyN_lt k q (fun j a b => by have := (Wd_ch h j a b).2.1; omega)
theorem kyn_ge {tx : Nat → Int32} {k q : Nat} (h : Wd tx (k + 1) q) : 128 ^ k ≤ kyn tx (k + 1) q := kyN_ge k q (fun j a b => by have := (Wd_ch h j a b).1; omega)
theorem kyf_n {tx : Nat → Int32} {k q : Nat} (h : Wd tx k q) : kyf tx k q 0 = Int64.ofNat (kyn tx k q) := kyf_N k q 0 h
theorem p128 : ∀ k, k ≤ 9 → 128 ^ k ≤ 2 ^ 63 := by decide
theorem kyn_63 {tx : Nat → Int32} {k q : Nat} (h : Wd tx k q) (hk : k ≤ 9) : kyn tx k q < 2 ^ 63 := Nat.lt_of_lt_of_le (kyn_lt h) (p128 k hk)
/-- the keys of the 49 words as numbers -/
theorem vk_num : ∀ i, i < 49 → ∃ n, n < 128 ^ 7 ∧ 1 ≤ n ∧ vkT i = Int64.ofNat n := by
  have h : ∀ i, i < 49 → (vkT i).toInt < 128 ^ 7 ∧ 1 ≤ (vkT i).toInt := by decide +kernel
  intro i hi
  obtain ⟨h1, h2⟩ := h i hi
  refine ⟨(vkT i).toInt.toNat, by omega, by omega, ?_⟩
  have e : (Int64.ofNat (vkT i).toInt.toNat).toInt = (vkT i).toInt := by
    rw [Int64.toInt_ofNat_of_lt (by omega)]
    omega
  exact (Int64.toInt_inj.mp e).symm
theorem m1_ne {n : Nat} (h : n < 2 ^ 63) : (-1 : Int64) ≠ Int64.ofNat n := by
  intro e
  have h1 : (Int64.ofNat n).toInt = n := Int64.toInt_ofNat_of_lt h
  rw [← e] at h1
  have h2 : (-1 : Int64).toInt = -1 := by decide
  omega
/-- a number's chars -/
theorem dgs_01 {tx : Nat → Int32} : ∀ k q, dgs tx k q = 0 ∨ dgs tx k q = 1 := by
  intro k
  induction k with
  | zero => intro q; exact Or.inr rfl
  | succ k ih =>
    intro q
    show (if tx q < 48 then (0 : Int32) else if tx q ≤ 57 then dgs tx k (q + 1) else 0) = 0 ∨ (if tx q < 48 then (0 : Int32) else if tx q ≤ 57 then dgs tx k (q + 1) else 0) = 1
    by_cases h1 : tx q < 48
    · rw [if_pos h1]; exact Or.inl rfl
    · rw [if_neg h1]
      by_cases h2 : tx q ≤ 57
      · rw [if_pos h2]; exact ih (q + 1)
      · rw [if_neg h2]; exact Or.inl rfl
theorem dgs_last {tx : Nat → Int32} : ∀ k q, dgs tx (k + 1) q ≠ 0 → ¬ tx (q + k) < 48 ∧ tx (q + k) ≤ 57 := by
  intro k
  induction k with
  | zero =>
    intro q h
    have h' : (if tx q < 48 then (0 : Int32) else if tx q ≤ 57 then 1 else 0) ≠ 0 := h
    by_cases h1 : tx q < 48
    · rw [if_pos h1] at h'; exact absurd rfl h'
    · rw [if_neg h1] at h'
      by_cases h2 : tx q ≤ 57
      · exact ⟨h1, h2⟩
      · rw [if_neg h2] at h'; exact absurd rfl h'
  | succ k ih =>
    intro q h
    have h' : (if tx q < 48 then (0 : Int32) else if tx q ≤ 57 then dgs tx (k + 1) (q + 1) else 0) ≠ 0 := h
    by_cases h1 : tx q < 48
    · rw [if_pos h1] at h'; exact absurd rfl h'
    · rw [if_neg h1] at h'
      by_cases h2 : tx q ≤ 57
      · rw [if_pos h2] at h'
        have := ih (q + 1) h'
        rw [show q + 1 + k = q + (k + 1) by omega] at this
        exact this
      · rw [if_neg h2] at h'; exact absurd rfl h'
theorem dgs_cg {tx ux : Nat → Int32} : ∀ k q r, (∀ j, j < k → tx (q + j) = ux (r + j)) → dgs tx k q = dgs ux k r := by
  intro k
  induction k with
  | zero => intro q r _; rfl
  | succ k ih =>
    intro q r h
    have h0 : tx q = ux r := h 0 (by omega)
    show (if tx q < 48 then (0 : Int32) else if tx q ≤ 57 then dgs tx k (q + 1) else 0) = (if ux r < 48 then (0 : Int32) else if ux r ≤ 57 then dgs ux k (r + 1) else 0)
    rw [h0, ih (q + 1) (r + 1) (fun j hj => by have := h (j + 1) (by omega); rw [show q + 1 + j = q + (j + 1) by omega, show r + 1 + j = r + (j + 1) by omega]; exact this)]
theorem isn_cg {tx ux : Nat → Int32} {s e r f : Nat} (hs : s < e) (hl : e - s = f - r) (h : ∀ j, j < e - s → tx (s + j) = ux (r + j)) : isn tx s e = isn ux r f := by
  have h0 : tx s = ux r := h 0 (by omega)
  unfold isn fd
  rw [h0]
  by_cases hm : ux r = 45
  · rw [if_pos hm, if_pos hm, show e - (s + 1) = f - (r + 1) by omega]
    rw [dgs_cg (f - (r + 1)) (s + 1) (r + 1) (fun j hj => by have := h (j + 1) (by omega); rw [show s + 1 + j = s + (j + 1) by omega, show r + 1 + j = r + (j + 1) by omega]; exact this)]
    by_cases h1 : e ≤ s + 1
    · rw [if_pos h1, if_pos (show f ≤ r + 1 by omega)]
    · rw [if_neg h1, if_neg (show ¬ f ≤ r + 1 by omega)]
  · rw [if_neg hm, if_neg hm, hl, dgs_cg (f - r) s r (fun j hj => h j (by omega)), if_neg (show ¬ e ≤ s by omega), if_neg (show ¬ f ≤ r by omega)]
theorem isn_01 {tx : Nat → Int32} {s e : Nat} : isn tx s e = 0 ∨ isn tx s e = 1 := by
  unfold isn
  by_cases h1 : e ≤ fd tx s
  · rw [if_pos h1]; exact Or.inl rfl
  · rw [if_neg h1]
    by_cases h2 : e - fd tx s ≤ 9
    · rw [if_pos h2]; exact dgs_01 _ _
    · rw [if_neg h2]; exact Or.inl rfl
/-- a number ends with a digit -/
theorem isn_last {tx : Nat → Int32} {s e : Nat} (hs : s < e) (h : isn tx s e ≠ 0) : ¬ tx (e - 1) < 48 ∧ tx (e - 1) ≤ 57 := by
  obtain ⟨h1, h2⟩ := fd_le (tx := tx) hs
  unfold isn at h
  by_cases g1 : e ≤ fd tx s
  · rw [if_pos g1] at h; exact absurd rfl h
  · rw [if_neg g1] at h
    by_cases g2 : e - fd tx s ≤ 9
    · rw [if_pos g2, show e - fd tx s = (e - fd tx s - 1) + 1 by omega] at h
      have := dgs_last (e - fd tx s - 1) (fd tx s) h
      rw [show fd tx s + (e - fd tx s - 1) = e - 1 by omega] at this
      exact this
    · rw [if_neg g2] at h; exact absurd rfl h
/-- a number's key is none of the marks -/
theorem isn_key {tx : Nat → Int32} {s e : Nat} (hs : s < e) (h9 : e - s ≤ 9) (hW : Wd tx (e - s) s) (h : isn tx s e ≠ 0) {m : Nat} (hm : m < 2 ^ 63) (hm2 : m % 128 < 48 ∨ 57 < m % 128) : kyf tx (e - s) s 0 ≠ Int64.ofNat m := by
  rw [kyf_n hW]
  intro z
  have z' := i64_inj (kyn_63 hW h9) hm z
  obtain ⟨c1, c2, c3⟩ := Wd_ch hW (e - 1) (by omega) (by omega)
  obtain ⟨d1, d2⟩ := isn_last hs h
  rw [c3] at d1 d2
  have b1 : 48 ≤ ch tx (e - 1) := by
    rcases Nat.lt_or_ge (ch tx (e - 1)) 48 with y | y
    · exact absurd (sR_t 48 48 y) d1
    · exact y
  have b2 : ch tx (e - 1) ≤ 57 := by
    rcases Nat.lt_or_ge 57 (ch tx (e - 1)) with y | y
    · exact absurd d2 (lR_f 57 57 (by omega))
    · exact y
  have e1 : kyn tx (e - s) s = kyN (ch tx) (e - s - 1) s 0 * 128 + ch tx (e - 1) := by
    unfold kyn
    have := kyN_snoc (ch tx) (e - s - 1) s 0
    rw [show e - s - 1 + 1 = e - s by omega, show s + (e - s - 1) = e - 1 by omega] at this
    exact this
  omega
/-- a name that a definition may have -/
def NK (v : Int64) : Prop := (∀ q, q < 49 → vkT q ≠ v) ∧ (∃ m, m < 128 ^ 6 ∧ v = Int64.ofNat m) ∧ ∀ (tx : Nat → Int32) (s e : Nat), s < e → e - s ≤ 9 → Wd tx (e - s) s → isn tx s e ≠ 0 → kyf tx (e - s) s 0 ≠ v
theorem NK_of {tx : Nat → Int32} {s e : Nat} (hs : s < e) (h6 : e - s ≤ 6) (hW : Wd tx (e - s) s) (h0 : isn tx s e = 0) (hv : ∀ q, q < 49 → vkT q ≠ kyf tx (e - s) s 0) : NK (kyf tx (e - s) s 0) := by
  refine ⟨hv, ⟨kyn tx (e - s) s, Nat.lt_of_lt_of_le (kyn_lt hW) (Nat.pow_le_pow_right (by decide) h6), kyf_n hW⟩, fun ux r f hr h9 hU hi z => ?_⟩
  rw [kyf_n hW, kyf_n hU] at z
  have z' := i64_inj (kyn_63 hU h9) (kyn_63 hW (by omega)) z
  obtain ⟨a, b⟩ := kyN_inj (f - r) (e - s) r s (fun j x y => by have := Wd_ch hU j x y; omega) (fun j x y => by have := Wd_ch hW j x y; omega) z'
  refine hi ((isn_cg hr a (fun j hj => ?_)).trans h0)
  obtain ⟨-, -, c3⟩ := Wd_ch hU (r + j) (by omega) (by omega)
  obtain ⟨-, -, d3⟩ := Wd_ch hW (s + j) (by omega) (by omega)
  rw [c3, d3, b j hj]
