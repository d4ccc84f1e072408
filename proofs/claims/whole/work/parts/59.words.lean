/-! a word of the text: what class and reference take it for -/
/-- the word's number: 49 a number, below 49 one of the 49 words, 50 a name, 52 unknown -/
def WC (tx : Nat → Int32) (keys : Nat → Int64) (names : Nat → Int64) (sz s e o : Nat) : Prop :=
  (o = 49 ∧ isn tx s e = 1 ∧ fnX12_meant names (nI sz) (sp tx s e) = some (-1) ∧ sp tx s e ≠ 58 ∧ sp tx s e ≠ 59 ∧ sp tx s e ≠ 3534730425076) ∨
  (o < 49 ∧ isn tx s e = 0 ∧ sp tx s e = vkT o ∧ wk tx s e = vkT o ∧ e - s ≤ 7 ∧ fnX12_meant names (nI sz) (sp tx s e) = some (-1)) ∨
  (o = 50 ∧ isn tx s e = 0 ∧ (∀ q, q < 49 → vkT q ≠ sp tx s e) ∧ e - s ≤ 7 ∧ ∃ k, k < sz ∧ fnX1_find keys (nI sz) (wk tx s e) = some (nI k) ∧ fnX12_meant names (nI sz) (sp tx s e) = some (nI k)) ∨
  (o = 52 ∧ isn tx s e = 0 ∧ (∀ q, q < 49 → vkT q ≠ sp tx s e) ∧ fnX12_meant names (nI sz) (sp tx s e) = some (-1))
theorem vk_first : ∀ (m : Nat) (v : Int64), (∃ i, i < m ∧ vkT i = v) → ∃ i, i < m ∧ vkT i = v ∧ ∀ q, q < i → vkT q ≠ v := by
  intro m v
  induction m with
  | zero => rintro ⟨i, hi, -⟩; omega
  | succ m ih =>
    rintro ⟨i, hi, e⟩
    by_cases h : ∃ j, j < m ∧ vkT j = v
    · obtain ⟨j, a, b, c⟩ := ih h
      exact ⟨j, by omega, b, c⟩
    · have : i = m := by
        rcases Nat.lt_or_ge i m with y | y
        · exact absurd ⟨i, y, e⟩ h
        · omega
      subst this
      exact ⟨i, hi, e, fun q hq z => h ⟨q, hq, z⟩⟩
section
variable {tx : Nat → Int32} {keys names K : Nat → Int64} {ds ops args ms mz kd wt : Nat → Int32} {S : Nat → Nat} {sz n s e : Nat}
theorem opw (hT : Tx tx n) (hs : s < e) (he : e ≤ n) (hW : Wd tx (e - s) s) (hK : ∀ j, j < 49 → K j = vkT j) (hD : DI keys names ds ops args ms mz kd wt S sz) : ∃ o, o < 53 ∧ fnX3_opOfWord keys (nI sz) tx (nI n) (nI s) (nI e) K = some (nI o) ∧ WC tx keys names sz s e o := by
  unfold fnX3_opOfWord
  rw [pX9_isNumber hT hs he, bd1_s]
  have hnk : ∀ k, k < sz → NK (keys k) := fun k hk => (hD.2.2.2 k hk).2.2.2.2.1
  have hneg : ∀ k, k < sz → keys k ≠ -1 := by
    intro k hk z
    obtain ⟨m, m1, m2⟩ := (hnk k hk).2.1
    rw [z] at m2
    exact m1_ne (Nat.lt_of_lt_of_le m1 (by decide)) m2
  have hvneg : ∀ q, q < 49 → vkT q ≠ -1 := by
    intro q hq z
    obtain ⟨m, m1, m2, m3⟩ := vk_num q hq
    rw [z] at m3
    exact m1_ne (Nat.lt_of_lt_of_le m1 (by decide)) m3
  rcases isn_01 (tx := tx) (s := s) (e := e) with h0 | h1
  · rw [h0, if_pos rfl, pX9_wordKey hT hs he, bd1_s]
    -- long words are no words
    have hlong : 7 < e - s → (∀ q, q < 49 → vkT q ≠ sp tx s e) ∧ ∀ k, k < sz → keys k ≠ sp tx s e := by
      intro hl
      unfold sp
      by_cases h9 : e - s ≤ 9
      · rw [if_pos h9, kyf_n hW]
        have hge : 128 ^ 7 ≤ kyn tx (e - s) s := by
          obtain ⟨j, hj⟩ : ∃ j, e - s = j + 1 := ⟨e - s - 1, by omega⟩
          rw [hj] at hW ⊢
          exact Nat.le_trans (Nat.pow_le_pow_right (by decide) (show 7 ≤ j by omega)) (kyn_ge hW)
        have h63 := kyn_63 hW h9
        refine ⟨fun q hq z => ?_, fun k hk z => ?_⟩
        · obtain ⟨m, m1, m2, m3⟩ := vk_num q hq
          rw [m3] at z
          have := i64_inj (Nat.lt_of_lt_of_le m1 (by decide)) h63 z
          omega
        · obtain ⟨m, m1, m3⟩ := (hnk k hk).2.1
          rw [m3] at z
          have := i64_inj (Nat.lt_of_lt_of_le m1 (by decide)) h63 z
          have h7 : (128 : Nat) ^ 6 < 128 ^ 7 := by decide
          omega
      · rw [if_neg h9]
        exact ⟨hvneg, hneg⟩
    have hwk7 : 7 < e - s → wk tx s e = -1 := fun hl => if_neg (by omega)
    have heq : e - s ≤ 7 → sp tx s e = wk tx s e := fun hl => by unfold sp wk; rw [if_pos (by omega), if_pos hl]
    by_cases hv : ∃ i, i < 49 ∧ vkT i = wk tx s e
    · obtain ⟨i, i1, i2, i3⟩ := vk_first 49 _ hv
      have h7 : e - s ≤ 7 := by
        rcases Nat.lt_or_ge 7 (e - s) with y | y
        · rw [hwk7 y] at i2; exact absurd i2 (hvneg i i1)
        · exact y
      rw [pX10_find hK i1 i2 i3, bd1_s, if_neg (ne_L 52 52 (by omega))]
      refine ⟨i, by omega, rfl, Or.inr (Or.inl ⟨i1, h0, (heq h7).trans i2.symm, i2.symm, h7, (fd_none hD (fun k hk => ?_)).2⟩)⟩
      rw [heq h7, ← i2]
      exact fun z => (hnk k hk).1 i i1 z.symm
    · have hv' : ∀ q, q < 49 → vkT q ≠ wk tx s e := fun q hq z => hv ⟨q, hq, z⟩
      have hvs : ∀ q, q < 49 → vkT q ≠ sp tx s e := by
        rcases Nat.lt_or_ge 7 (e - s) with y | y
        · exact (hlong y).1
        · rw [heq y]; exact hv'
      rw [pX10_none hK hv', bd1_s, if_pos rfl]
      obtain ⟨r, a1, a2, a3⟩ := fd_both hD (wk tx s e)
      rw [a1, bd1_s]
      rcases a3 with ⟨b1, b2⟩ | ⟨k, b1, b2, b3⟩
      · rw [if_pos b1]
        refine ⟨52, by omega, rfl, Or.inr (Or.inr (Or.inr ⟨rfl, h0, hvs, ?_⟩))⟩
        rcases Nat.lt_or_ge 7 (e - s) with y | y
        · exact (fd_none hD (hlong y).2).2
        · rw [heq y, a2, b1]
      · have h7 : e - s ≤ 7 := by
          rcases Nat.lt_or_ge 7 (e - s) with y | y
          · rw [hwk7 y] at b3; exact absurd b3 (hneg k b1)
          · exact y
        have hsz := hD.1
        have hne : r ≠ -1 := by
          rw [b2]
          intro z
          have e1 : (nI k).toInt = (k : Int) := nI_toInt (by omega)
          rw [z] at e1
          have e2 : (-1 : Int32).toInt = -1 := by decide
          omega
        rw [if_neg hne]
        refine ⟨50, by omega, rfl, Or.inr (Or.inr (Or.inl ⟨rfl, h0, hvs, h7, k, b1, by rw [a1, b2], by rw [heq h7, a2, b2]⟩))⟩
  · rw [h1, if_neg (by decide)]
    refine ⟨49, by omega, rfl, Or.inl ⟨rfl, h1, ?_, ?_, ?_, ?_⟩⟩
    · refine (fd_none hD (fun k hk => ?_)).2
      unfold sp
      by_cases h9 : e - s ≤ 9
      · rw [if_pos h9]; exact fun z => (hnk k hk).2.2 tx s e hs h9 hW (by rw [h1]; decide) z.symm
      · rw [if_neg h9]; exact hneg k hk
    · unfold sp
      by_cases h9 : e - s ≤ 9
      · rw [if_pos h9]; exact isn_key hs h9 hW (by rw [h1]; decide) (m := 58) (by decide) (by decide)
      · rw [if_neg h9]; decide
    · unfold sp
      by_cases h9 : e - s ≤ 9
      · rw [if_pos h9]; exact isn_key hs h9 hW (by rw [h1]; decide) (m := 59) (by decide) (by decide)
      · rw [if_neg h9]; decide
    · unfold sp
      by_cases h9 : e - s ≤ 9
      · rw [if_pos h9]; exact isn_key hs h9 hW (by rw [h1]; decide) (m := 3534730425076) (by decide) (by decide)
      · rw [if_neg h9]; decide
/-- words of the text have chars only -/
theorem WS_Wd {nw : Nat} {fr tt : Nat → Nat} (hT : Tx tx n) (hW : WS tx n nw fr tt) {k : Nat} (hk : k < nw) : fr k < tt k ∧ tt k ≤ n ∧ Wd tx (tt k - fr k) (fr k) := by
  obtain ⟨h1, h2, h3, h4, h5, h6⟩ := hW.1 k hk
  refine ⟨h2, h3, fun j a b => ?_⟩
  obtain ⟨c, c1, c2, c3⟩ := hT.2 j (by omega)
  refine ⟨c, ?_, c2, c3⟩
  have := h5 j a (by omega)
  rcases Nat.lt_or_ge 32 c with y | y
  · exact y
  · exact absurd (by rw [c3, show c = 32 by omega]; rfl) this
end
