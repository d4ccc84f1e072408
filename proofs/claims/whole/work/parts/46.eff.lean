/-! what the plain words do: stacks that agree below n, cells that agree, the ring and the row of what was put out -/
def Ag (v k : Nat → Int32) (n : Nat) : Prop := ∀ j, j < n → v j = k j
theorem Ag_tp {v k : Nat → Int32} {n : Nat} (h : Ag v k n) (j : Nat) : tp v n j = tp k n j := by
  unfold tp
  by_cases hj : j < n
  · rw [if_pos hj, if_pos hj, h _ (by omega)]
  · rw [if_neg hj, if_neg hj]
theorem Ag_le {v k : Nat → Int32} {n m : Nat} (h : Ag v k n) (hm : m ≤ n) : Ag v k m := fun j hj => h j (by omega)
theorem Ag_up {v k : Nat → Int32} {n : Nat} (h : Ag v k n) (x : Int32) : Ag (upd v n x) (upd k n x) (n + 1) := by
  intro j hj
  by_cases e : j = n
  · subst e; rw [pk_us, pk_us]
  · rw [pk_un e, pk_un e]; exact h j (by omega)
/-- writing what is there changes nothing below -/
theorem Ag_same {v k : Nat → Int32} {n i : Nat} (h : Ag v k n) (hi : i < n) {x : Int32} (hx : x = k i) : Ag v (upd k i x) n := by
  intro j hj
  by_cases e : j = i
  · subst e; rw [pk_us, hx]; exact h j hj
  · rw [pk_un e]; exact h j hj
theorem pX7_put' {v : Nat → Int32} {n m : Nat} {x : Int32} (h : n < 32) (hm : m = n + 1) : fnX7_put v (nI n) x = some (1, upd v n x, nI m) := by
  subst hm; exact pX7_put h
theorem pX12_put' {k : Nat → Int32} {n m : Nat} {x : Int32} (h : n < 33) (hm : m = n + 1) : fnX12_put k (nI n) x.toInt64 = some (upd k n x, nI m) := by
  subst hm; exact pX12_put h
theorem pX7_drop {n d : Nat} (hn : n ≤ 32) (hd : d ≤ n) : fnX7_drop (nI n) (nI d) = some (nI (n - d)) := by
  unfold fnX7_drop
  rw [if_neg (nI_pos (by omega)), if_neg (fun z => absurd ((nI_ltI (by omega) (by omega)).mp z) (by omega)), pk_sub hd]
theorem pX7_take' {v : Nat → Int32} {n : Nat} (h1 : 1 ≤ n) (hn : n ≤ 32) : fnX7_take v (nI n) = some (tp v n 0, nI (n - 1)) := by
  obtain ⟨m, rfl⟩ : ∃ m, n = m + 1 := ⟨n - 1, by omega⟩
  rw [pX7_take (by omega)]
  unfold tp
  rw [if_pos (by omega)]
  simp
theorem s129_le {p n : Nat} {top : Int32} (h : s129 p n top = 0) (h7 : p ≠ 7) : n - tkN p + gvN p ≤ 32 := by
  unfold s129 at h
  rw [if_neg (show ¬ (p = 7 ∧ top = 0) from fun z => h7 z.1)] at h
  rcases Nat.lt_or_ge 32 (n - tkN p + gvN p) with g | g
  · rw [if_neg (Nat.not_le.mpr g)] at h
    cases h
  · exact g
/-- the class: words that only move values -/
theorem arr_sim {v k mem ou : Nat → Int32} {outs flt : Int32} {n st p : Nat} (hp : p ≤ 8) (hn : n ≤ 32) (ht : tkN p ≤ n) (hs : s129 p n (tp v n 0) = 0) (hA : Ag v k n) :
    ∃ (v' k' : Nat → Int32) (n' : Nat), fnX5_arrange v (nI n) (nI p) = some (v', nI n') ∧ fnX12_plainStep_183 (nI p) (nI (tkN p)) (tp k n 0) (tp k n 1) (tp k n 2) k (nI n) mem ou outs (nI st) flt = some (1, k', nI n', mem, ou, outs, nI (st + 1), flt) ∧ n' ≤ 32 ∧ Ag v' k' n' := by
  have t0 : 1 ≤ n → tp k n 0 = k (n - 1) := fun h => (if_pos (by omega)).trans (congrArg k (by omega))
  have t1 : 2 ≤ n → tp k n 1 = k (n - 2) := fun h => (if_pos (by omega)).trans (congrArg k (by omega))
  have t2 : 3 ≤ n → tp k n 2 = k (n - 3) := fun h => (if_pos (by omega)).trans (congrArg k (by omega))
  unfold fnX5_arrange fnX12_plainStep_183
  rw [show (0 : Int32) = nI 0 from rfl, pX7_tp hn (by omega), bd1_s, show (1 : Int32) = nI 1 from rfl, pX7_tp hn (by omega), bd1_s, show (2 : Int32) = nI 2 from rfl, pX7_tp hn (by omega), bd1_s, Ag_tp hA, Ag_tp hA, Ag_tp hA]
  rw [Ag_tp hA] at hs
  rcases (show p = 0 ∨ p = 1 ∨ p = 2 ∨ p = 3 ∨ p = 4 ∨ p = 5 ∨ p = 6 ∨ p = 7 ∨ p = 8 by omega) with rfl | rfl | rfl | rfl | rfl | rfl | rfl | rfl | rfl
  · -- dup
    have ht : 1 ≤ n := ht
    have hle : n - 1 + 2 ≤ 32 := s129_le hs (by decide)
    rw [if_pos (by decide), if_pos (by decide), pX7_put (by omega), bd3_s, show nI n - nI (tkN 0) = nI (n - 1) from pk_sub ht, pX12_put' (m := n) (by omega) (by omega), bd2_s, pX12_put (by omega), bd2_s, nI_add]
    exact ⟨_, _, n + 1, rfl, rfl, by omega, Ag_up (Ag_same hA (by omega) (t0 ht)) _⟩
  · -- drop
    have ht : 1 ≤ n := ht
    rw [if_neg (by decide), if_pos (by decide), if_neg (by decide), if_pos (by decide), pX7_drop hn ht, bd1_s, show nI n - nI (tkN 1) = nI (n - 1) from pk_sub ht, nI_add]
    exact ⟨_, _, n - 1, rfl, rfl, by omega, Ag_le hA (by omega)⟩
  · -- swap
    have ht : 2 ≤ n := ht
    rw [if_neg (by decide), if_neg (by decide), if_pos (by decide), if_neg (by decide), if_neg (by decide), if_pos (by decide), pX7_drop hn ht, bd1_s, pX7_put' (m := n - 1) (by omega) (by omega), bd3_s, pX7_put' (m := n) (by omega) (by omega), bd3_s, show nI n - nI (tkN 2) = nI (n - 2) from pk_sub ht, pX12_put' (m := n - 1) (by omega) (by omega), bd2_s, pX12_put' (m := n) (by omega) (by omega), bd2_s, nI_add]
    refine ⟨_, _, n, rfl, rfl, hn, ?_⟩
    have a1 := Ag_up (Ag_le hA (show n - 2 ≤ n by omega)) (tp k n 0)
    rw [show n - 2 + 1 = n - 1 by omega] at a1
    have a2 := Ag_up a1 (tp k n 1)
    rw [show n - 1 + 1 = n by omega] at a2
    exact a2
  · -- over
    have ht : 2 ≤ n := ht
    have hle : n - 2 + 3 ≤ 32 := s129_le hs (by decide)
    rw [if_neg (by decide), if_neg (by decide), if_neg (by decide), if_pos (by decide), if_neg (by decide), if_neg (by decide), if_neg (by decide), if_pos (by decide), pX7_put (by omega), bd3_s, show nI n - nI (tkN 3) = nI (n - 2) from pk_sub ht, pX12_put' (m := n - 1) (by omega) (by omega), bd2_s, pX12_put' (m := n) (by omega) (by omega), bd2_s, pX12_put (by omega), bd2_s, nI_add]
    exact ⟨_, _, n + 1, rfl, rfl, by omega, Ag_up (Ag_same (Ag_same hA (by omega) (t1 ht)) (by omega) (by rw [pk_un (by omega)]; exact t0 (by omega))) _⟩
  · -- rot
    have ht : 3 ≤ n := ht
    rw [if_neg (by decide), if_neg (by decide), if_neg (by decide), if_neg (by decide), if_pos (by decide), if_neg (by decide), if_neg (by decide), if_neg (by decide), if_neg (by decide), if_pos (by decide), show fnX7_drop (nI n) 3 = some (nI (n - 3)) from pX7_drop hn ht, bd1_s, pX7_put' (m := n - 2) (by omega) (by omega), bd3_s, pX7_put' (m := n - 1) (by omega) (by omega), bd3_s, pX7_put' (m := n) (by omega) (by omega), bd3_s, show nI n - nI (tkN 4) = nI (n - 3) from pk_sub ht, pX12_put' (m := n - 2) (by omega) (by omega), bd2_s, pX12_put' (m := n - 1) (by omega) (by omega), bd2_s, pX12_put' (m := n) (by omega) (by omega), bd2_s, nI_add]
    refine ⟨_, _, n, rfl, rfl, hn, ?_⟩
    have a1 := Ag_up (Ag_le hA (show n - 3 ≤ n by omega)) (tp k n 1)
    rw [show n - 3 + 1 = n - 2 by omega] at a1
    have a2 := Ag_up a1 (tp k n 0)
    rw [show n - 2 + 1 = n - 1 by omega] at a2
    have a3 := Ag_up a2 (tp k n 2)
    rw [show n - 1 + 1 = n by omega] at a3
    exact a3
  · -- nip
    have ht : 2 ≤ n := ht
    rw [if_neg (by decide), if_neg (by decide), if_neg (by decide), if_neg (by decide), if_neg (by decide), if_pos (by decide), if_neg (by decide), if_neg (by decide), if_neg (by decide), if_neg (by decide), if_neg (by decide), if_pos (by decide), pX7_drop hn ht, bd1_s, pX7_put' (m := n - 1) (by omega) (by omega), bd3_s, show nI n - nI (tkN 5) = nI (n - 2) from pk_sub ht, pX12_put' (m := n - 1) (by omega) (by omega), bd2_s, nI_add]
    refine ⟨_, _, n - 1, rfl, rfl, by omega, ?_⟩
    have a1 := Ag_up (Ag_le hA (show n - 2 ≤ n by omega)) (tp k n 0)
    rw [show n - 2 + 1 = n - 1 by omega] at a1
    exact a1
  · -- tuck
    have ht : 2 ≤ n := ht
    have hle : n - 2 + 3 ≤ 32 := s129_le hs (by decide)
    rw [if_neg (by decide), if_neg (by decide), if_neg (by decide), if_neg (by decide), if_neg (by decide), if_neg (by decide), if_pos (by decide), if_neg (by decide), if_neg (by decide), if_neg (by decide), if_neg (by decide), if_neg (by decide), if_neg (by decide), if_pos (by decide), pX7_drop hn ht, bd1_s, pX7_put' (m := n - 1) (by omega) (by omega), bd3_s, pX7_put' (m := n) (by omega) (by omega), bd3_s, pX7_put (by omega), bd3_s, show nI n - nI (tkN 6) = nI (n - 2) from pk_sub ht, pX12_put' (m := n - 1) (by omega) (by omega), bd2_s, pX12_put' (m := n) (by omega) (by omega), bd2_s, pX12_put (by omega), bd2_s, nI_add]
    refine ⟨_, _, n + 1, rfl, rfl, by omega, ?_⟩
    have a1 := Ag_up (Ag_le hA (show n - 2 ≤ n by omega)) (tp k n 0)
    rw [show n - 2 + 1 = n - 1 by omega] at a1
    have a2 := Ag_up a1 (tp k n 1)
    rw [show n - 1 + 1 = n by omega] at a2
    exact Ag_up a2 _
  · -- ?dup
    have ht : 1 ≤ n := ht
    by_cases hz : tp k n 0 = nI 0
    · rw [if_neg (by decide), if_neg (by decide), if_neg (by decide), if_neg (by decide), if_neg (by decide), if_neg (by decide), if_neg (by decide), if_pos (by decide), if_pos hz, if_neg (by decide), if_neg (by decide), if_neg (by decide), if_neg (by decide), if_neg (by decide), if_neg (by decide), if_neg (by decide), if_pos (by decide), show nI n - nI (tkN 7) = nI (n - 1) from pk_sub ht, pX12_put' (m := n) (by omega) (by omega), bd2_s, if_pos hz, nI_add]
      exact ⟨_, _, n, rfl, rfl, hn, Ag_same hA (by omega) (t0 ht)⟩
    · have hle : n - 1 + 2 ≤ 32 := by
        unfold s129 at hs
        rw [if_neg (show ¬ (7 = 7 ∧ tp k n 0 = 0) from fun z => hz z.2)] at hs
        rcases Nat.lt_or_ge 32 (n - 1 + 2) with h | h
        · rw [if_neg (show ¬ n - tkN 7 + gvN 7 ≤ 32 from Nat.not_le.mpr h)] at hs
          cases hs
        · exact h
      rw [if_neg (by decide), if_neg (by decide), if_neg (by decide), if_neg (by decide), if_neg (by decide), if_neg (by decide), if_neg (by decide), if_pos (by decide), if_neg hz, if_neg (by decide), if_neg (by decide), if_neg (by decide), if_neg (by decide), if_neg (by decide), if_neg (by decide), if_neg (by decide), if_pos (by decide), show nI n - nI (tkN 7) = nI (n - 1) from pk_sub ht, pX12_put' (m := n) (by omega) (by omega), bd2_s, if_neg hz, pX7_put (by omega), bd3_s, pX12_put (by omega), bd2_s, nI_add]
      exact ⟨_, _, n + 1, rfl, rfl, by omega, Ag_up (Ag_same hA (by omega) (t0 ht)) _⟩
  · -- depth
    have hle : n - 0 + 1 ≤ 32 := s129_le hs (by decide)
    rw [if_neg (by decide), if_neg (by decide), if_neg (by decide), if_neg (by decide), if_neg (by decide), if_neg (by decide), if_neg (by decide), if_neg (by decide), if_neg (by decide), if_neg (by decide), if_neg (by decide), if_neg (by decide), if_neg (by decide), if_neg (by decide), if_neg (by decide), if_neg (by decide), if_pos (by decide)]
    unfold fnX7_size
    rw [bd1_s, pX7_put (by omega), bd3_s, show nI n - nI (tkN 8) = nI n from pk_sub (b := 0) (by omega), pX12_put (by omega), bd2_s, nI_add]
    exact ⟨_, _, n + 1, rfl, rfl, by omega, Ag_up hA _⟩
/-! pairs and single values -/
theorem flag1 : fnX5_flag 1 = some (-1) := rfl
theorem flag0 : fnX5_flag 0 = some 0 := rfl
theorem pair_sim {mem : Nat → Int32} {a b : Int32} {p : Nat} (hp : (9 ≤ p ∧ p ≤ 13) ∨ (16 ≤ p ∧ p ≤ 20) ∨ (22 ≤ p ∧ p ≤ 26)) (hb : p = 12 ∨ p = 13 → b ≠ 0) : ∃ (r : Int32) (v : Int64), fnX5_ofPair (nI (piT p)) a b = some r ∧ fnX12_made mem (nI p) a b = some v ∧ v.toInt32 = r := by
  unfold fnX5_ofPair fnX12_made
  rcases (show p = 9 ∨ p = 10 ∨ p = 11 ∨ p = 12 ∨ p = 13 ∨ p = 16 ∨ p = 17 ∨ p = 18 ∨ p = 19 ∨ p = 20 ∨ p = 22 ∨ p = 23 ∨ p = 24 ∨ p = 25 ∨ p = 26 by omega) with rfl | rfl | rfl | rfl | rfl | rfl | rfl | rfl | rfl | rfl | rfl | rfl | rfl | rfl | rfl
  · exact ⟨a + b, _, rfl, rfl, by rw [Int64.toInt32_add, i6432, i6432]⟩
  · exact ⟨a - b, _, rfl, rfl, by rw [Int64.toInt32_sub, i6432, i6432]⟩
  · exact ⟨a * b, _, rfl, rfl, by rw [Int64.toInt32_mul, i6432, i6432]⟩
  · obtain ⟨r, v, h1, h2, h3⟩ := floor_sim a b (hb (Or.inl rfl))
    refine ⟨r, v, ?_, ?_, h3⟩
    · show (if b = 0 then some (0 : Int32) else bd1 (fnJ9_floorDiv_7cf53 a b) fun r_9 => some r_9) = some r
      rw [if_neg (hb (Or.inl rfl)), h1, bd1_s]
    · show (bd1 (fnX12_floor a.toInt64 b.toInt64) fun r_5 => some r_5) = some v
      rw [h2, bd1_s]
  · obtain ⟨r, v, h1, h2, h3⟩ := floor_sim a b (hb (Or.inr rfl))
    refine ⟨a - b * r, a.toInt64 - b.toInt64 * v, ?_, ?_, by rw [Int64.toInt32_sub, Int64.toInt32_mul, i6432, i6432, h3]⟩
    · show (if b = 0 then some (0 : Int32) else bd1 (fnJ9_floorDiv_7cf53 a b) fun r_9 => some (a - b * r_9)) = some (a - b * r)
      rw [if_neg (hb (Or.inr rfl)), h1, bd1_s]
    · show (bd1 (fnX12_floor a.toInt64 b.toInt64) fun r_5 => some (a.toInt64 - b.toInt64 * r_5)) = some (a.toInt64 - b.toInt64 * v)
      rw [h2, bd1_s]
  · -- min
    refine ⟨if b < a then b else a, if b ≤ a then b.toInt64 else a.toInt64, rfl, ?_, ?_⟩
    · show (if b ≤ a then some b.toInt64 else some a.toInt64) = _
      by_cases h : b ≤ a
      · rw [if_pos h, if_pos h]
      · rw [if_neg h, if_neg h]
    · by_cases h : b ≤ a
      · rw [if_pos h, i6432]
        by_cases h2 : b < a
        · rw [if_pos h2]
        · rw [if_neg h2]; exact Int32.le_antisymm h (Int32.not_lt.mp h2)
      · rw [if_neg h, i6432, if_neg (fun z => h (Int32.le_of_lt z))]
  · -- max
    refine ⟨if a < b then b else a, if a ≤ b then b.toInt64 else a.toInt64, rfl, ?_, ?_⟩
    · show (if a ≤ b then some b.toInt64 else some a.toInt64) = _
      by_cases h : a ≤ b
      · rw [if_pos h, if_pos h]
      · rw [if_neg h, if_neg h]
    · by_cases h : a ≤ b
      · rw [if_pos h, i6432]
        by_cases h2 : a < b
        · rw [if_pos h2]
        · rw [if_neg h2]; exact Int32.le_antisymm (Int32.not_lt.mp h2) h
      · rw [if_neg h, i6432, if_neg (fun z => h (Int32.le_of_lt z))]
  · exact ⟨a &&& b, _, rfl, rfl, i6432 _⟩
  · exact ⟨a ||| b, _, rfl, rfl, i6432 _⟩
  · exact ⟨a ^^^ b, _, rfl, rfl, i6432 _⟩
  · exact ⟨_, _, rfl, rfl, i6432 _⟩
  · exact ⟨_, _, rfl, rfl, i6432 _⟩
  · show ∃ (r : Int32) (v : Int64), (if a = b then fnX5_ofPair_164 1 else fnX5_ofPair_164 0) = some r ∧ (if a = b then some (-1 : Int64) else some 0) = some v ∧ v.toInt32 = r
    by_cases h : a = b
    · rw [if_pos h, if_pos h]; exact ⟨-1, -1, rfl, rfl, rfl⟩
    · rw [if_neg h, if_neg h]; exact ⟨0, 0, rfl, rfl, rfl⟩
  · show ∃ (r : Int32) (v : Int64), (if b ≤ a then fnX5_ofPair_178 0 else fnX5_ofPair_178 1) = some r ∧ (if b ≤ a then some (0 : Int64) else some (-1)) = some v ∧ v.toInt32 = r
    by_cases h : b ≤ a
    · rw [if_pos h, if_pos h]; exact ⟨0, 0, rfl, rfl, rfl⟩
    · rw [if_neg h, if_neg h]; exact ⟨-1, -1, rfl, rfl, rfl⟩
  · show ∃ (r : Int32) (v : Int64), (if a ≤ b then fnX5_ofPair_192 0 else fnX5_ofPair_192 1) = some r ∧ (if a ≤ b then some (0 : Int64) else some (-1)) = some v ∧ v.toInt32 = r
    by_cases h : a ≤ b
    · rw [if_pos h, if_pos h]; exact ⟨0, 0, rfl, rfl, rfl⟩
    · rw [if_neg h, if_neg h]; exact ⟨-1, -1, rfl, rfl, rfl⟩
theorem lone_sim {mem : Nat → Int32} {a b : Int32} {p : Nat} (hp : p = 14 ∨ p = 15 ∨ p = 21 ∨ p = 27 ∨ p = 28) : ∃ (r : Int32) (v : Int64), fnX5_ofOne (nI (piT p)) b = some r ∧ fnX12_made mem (nI p) a b = some v ∧ v.toInt32 = r := by
  unfold fnX5_ofOne fnX12_made
  rcases hp with rfl | rfl | rfl | rfl | rfl
  · exact ⟨-b, _, rfl, rfl, by rw [Int64.toInt32_neg, i6432]⟩
  · show ∃ (r : Int32) (v : Int64), (if 0 ≤ b then some b else some (-b)) = some r ∧ (if 0 ≤ b then some b.toInt64 else some (-b.toInt64)) = some v ∧ v.toInt32 = r
    by_cases h : 0 ≤ b
    · rw [if_pos h, if_pos h]; exact ⟨_, _, rfl, rfl, i6432 _⟩
    · rw [if_neg h, if_neg h]; exact ⟨_, _, rfl, rfl, by rw [Int64.toInt32_neg, i6432]⟩
  · exact ⟨_, _, rfl, rfl, i6432 _⟩
  · show ∃ (r : Int32) (v : Int64), (if b = 0 then fnX5_ofOne_59 1 else fnX5_ofOne_59 0) = some r ∧ (if b = 0 then some (-1 : Int64) else some 0) = some v ∧ v.toInt32 = r
    by_cases h : b = 0
    · rw [if_pos h, if_pos h]; exact ⟨-1, -1, rfl, rfl, rfl⟩
    · rw [if_neg h, if_neg h]; exact ⟨0, 0, rfl, rfl, rfl⟩
  · show ∃ (r : Int32) (v : Int64), (if 0 ≤ b then fnX5_ofOne_72 0 else fnX5_ofOne_72 1) = some r ∧ (if 0 ≤ b then some (0 : Int64) else some (-1)) = some v ∧ v.toInt32 = r
    by_cases h : 0 ≤ b
    · rw [if_pos h, if_pos h]; exact ⟨0, 0, rfl, rfl, rfl⟩
    · rw [if_neg h, if_neg h]; exact ⟨-1, -1, rfl, rfl, rfl⟩
/-! what is put out: the class's ring, the reference's row -/
def TR (la : Nat → Int32) (co : Int32) (ou : Nat → Int32) : Prop := ∀ k, k < 16 → la ((co.toBitVec.toNat + 31 - k) % 16) = ou k
theorem and15 (x : Int32) : x &&& 15 = nI (x.toBitVec.toNat % 16) := pk_and x (m := 15) 4 (by decide)
theorem sub15 (co : Int32) {k : Nat} (hk : k < 16) : ((co - 1) - nI k) &&& 15 = nI ((co.toBitVec.toNat + 31 - k) % 16) := by
  rw [and15]
  congr 1
  have h : ((co - 1) - nI k).toBitVec.toNat = (co.toBitVec.toNat + (2 ^ 32 - 1) + (2 ^ 32 - k)) % 2 ^ 32 := by
    show ((co.toBitVec - (1 : Int32).toBitVec) - (nI k).toBitVec).toNat = _
    rw [BitVec.toNat_sub, BitVec.toNat_sub, pk_tn (by omega)]
    show (2 ^ 32 - k + (2 ^ 32 - 1 + co.toBitVec.toNat) % 2 ^ 32) % 2 ^ 32 = _
    omega
  rw [h]
  have := co.toBitVec.isLt
  omega
theorem inc15 (co : Int32) : (co + 1).toBitVec.toNat % 16 = (co.toBitVec.toNat + 1) % 16 := by
  have h : (co + 1).toBitVec.toNat = (co.toBitVec.toNat + 1) % 2 ^ 32 := by
    show (co.toBitVec + (1 : Int32).toBitVec).toNat = _
    rw [BitVec.toNat_add]
    rfl
  rw [h]
  omega
theorem pX8_add {la : Nat → Int32} {co x : Int32} : fnX8_add la co x = some (upd la (co.toBitVec.toNat % 16) x, co + 1) := by
  unfold fnX8_add
  rw [and15, sa_n (by omega) (by omega), bd1_s]
/-- the row moves up by one -/
def sft (ou : Nat → Int32) (x : Int32) : Nat → Int32 := fun j => if j = 0 then x else if j < 16 then ou (j - 1) else ou j
theorem TR_add {la ou : Nat → Int32} {co x : Int32} (h : TR la co ou) : TR (upd la (co.toBitVec.toNat % 16) x) (co + 1) (sft ou x) := by
  intro k hk
  have e : ((co + 1).toBitVec.toNat + 31 - k) % 16 = (co.toBitVec.toNat + 32 - k) % 16 := by
    have := inc15 co
    omega
  rw [e]
  unfold sft
  by_cases h0 : k = 0
  · subst h0
    rw [if_pos rfl, show (co.toBitVec.toNat + 32 - 0) % 16 = co.toBitVec.toNat % 16 by omega, pk_us]
  · rw [if_neg h0, if_pos hk, pk_un (by omega), ← h (k - 1) (by omega)]
    congr 1
    omega
theorem m529 {b : Int32} {k mem : Nat → Int32} {h outs st flt : Int32} : ∀ (i f : Nat) (ou w : Nat → Int32), i < 16 → i < f → (∀ j, j ≤ i → w j = ou j) → (∀ j, i < j → j < 16 → w j = ou (j - 1)) → (∀ j, 16 ≤ j → w j = ou j) →
    ∃ w', fnX12_plainStep_529 f b (nI i) k h mem w outs st flt = some (1, k, h, mem, w', outs + 1, st, flt) ∧ ∀ j, w' j = sft ou b j := by
  intro i
  induction i with
  | zero =>
    intro f ou w h1 h2 a1 a2 a3
    obtain ⟨f, rfl⟩ : ∃ g, f = g + 1 := ⟨f - 1, by omega⟩
    rw [fnX12_plainStep_529, if_pos (by decide), show sa 16 w 0 b = some (upd w 0 b) from sa_n (i := 0) (by omega) (by omega), bd1_s]
    refine ⟨_, rfl, fun j => ?_⟩
    unfold sft
    by_cases hj : j = 0
    · subst hj; rw [pk_us, if_pos rfl]
    · rw [pk_un hj, if_neg hj]
      by_cases h16 : j < 16
      · rw [if_pos h16]; exact a2 j (by omega) h16
      · rw [if_neg h16]; exact a3 j (by omega)
  | succ i ih =>
    intro f ou w h1 h2 a1 a2 a3
    obtain ⟨f, rfl⟩ : ∃ g, f = g + 1 := ⟨f - 1, by omega⟩
    rw [fnX12_plainStep_529, if_neg (nI_nle (by omega) (by omega)), nI_pred, ga_n (by omega) (by omega), bd1_s, sa_n (by omega) (by omega), bd1_s, pk_m1]
    refine ih f ou _ (by omega) (by omega) (fun j hj => ?_) (fun j hj hj2 => ?_) (fun j hj => ?_)
    · rw [pk_un (by omega)]; exact a1 j (by omega)
    · by_cases e : j = i + 1
      · subst e; rw [pk_us, a1 i (by omega)]; rfl
      · rw [pk_un e]; exact a2 j (by omega) hj2
    · rw [pk_un (by omega)]; exact a3 j hj
