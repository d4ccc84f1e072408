/-! a plain word: class and reference do the same -/
theorem pX6_isStep {o : Nat} (h : o < 53) (h1 : o ≠ 34) (h2 : o ≠ 35) (h3 : o ≠ 36) : fnX6_isStep (nI o) = some 1 := by
  unfold fnX6_isStep
  rw [if_neg (ne_L 34 34 h1), if_neg (ne_L 35 35 h2), if_neg (ne_L 36 36 h3)]
theorem rng {o a b : Nat} {f : Int32 → Option Int32} (ho : o < 53) (hb : b < 53) (hf : f (nI o) = if nI o < nI a then some 0 else if nI b < nI o then some 0 else some 1) (ha : a < 53) : f (nI o) = some (if a ≤ o ∧ o ≤ b then 1 else 0) := by
  rw [hf]
  by_cases h1 : o < a
  · rw [if_pos ((nI_ltI (by omega) (by omega)).mpr h1), if_neg (by omega)]
  · rw [if_neg (fun z => h1 ((nI_ltI (by omega) (by omega)).mp z))]
    by_cases h2 : b < o
    · rw [if_pos ((nI_ltI (by omega) (by omega)).mpr h2), if_neg (by omega)]
    · rw [if_neg (fun z => h2 ((nI_ltI (by omega) (by omega)).mp z)), if_pos (by omega)]
theorem pStack {o : Nat} (ho : o < 53) : fnX6_isStackWord (nI o) = some (if 0 ≤ o ∧ o ≤ 8 then 1 else 0) := rng (a := 0) (b := 8) ho (by omega) rfl (by omega)
theorem pStackT {o : Nat} (h : 0 ≤ o ∧ o ≤ 8) : fnX6_isStackWord (nI o) = some 1 := by rw [pStack (by omega), if_pos h]
theorem pStackF {o : Nat} (ho : o < 53) (h : ¬ (0 ≤ o ∧ o ≤ 8)) : fnX6_isStackWord (nI o) = some 0 := by rw [pStack ho, if_neg h]
theorem pPair {o : Nat} (ho : o < 53) : fnX6_isPairWord (nI o) = some (if 9 ≤ o ∧ o ≤ 23 then 1 else 0) := rng (a := 9) (b := 23) ho (by omega) rfl (by omega)
theorem pPairT {o : Nat} (h : 9 ≤ o ∧ o ≤ 23) : fnX6_isPairWord (nI o) = some 1 := by rw [pPair (by omega), if_pos h]
theorem pPairF {o : Nat} (ho : o < 53) (h : ¬ (9 ≤ o ∧ o ≤ 23)) : fnX6_isPairWord (nI o) = some 0 := by rw [pPair ho, if_neg h]
theorem pLone {o : Nat} (ho : o < 53) : fnX6_isLoneWord (nI o) = some (if 24 ≤ o ∧ o ≤ 28 then 1 else 0) := rng (a := 24) (b := 28) ho (by omega) rfl (by omega)
theorem pLoneT {o : Nat} (h : 24 ≤ o ∧ o ≤ 28) : fnX6_isLoneWord (nI o) = some 1 := by rw [pLone (by omega), if_pos h]
theorem pLoneF {o : Nat} (ho : o < 53) (h : ¬ (24 ≤ o ∧ o ≤ 28)) : fnX6_isLoneWord (nI o) = some 0 := by rw [pLone ho, if_neg h]
theorem pStore {o : Nat} (ho : o < 53) : fnX6_isStoreWord (nI o) = some (if 29 ≤ o ∧ o ≤ 32 then 1 else 0) := rng (a := 29) (b := 32) ho (by omega) rfl (by omega)
theorem pStoreT {o : Nat} (h : 29 ≤ o ∧ o ≤ 32) : fnX6_isStoreWord (nI o) = some 1 := by rw [pStore (by omega), if_pos h]
theorem pStoreF {o : Nat} (ho : o < 53) (h : ¬ (29 ≤ o ∧ o ≤ 32)) : fnX6_isStoreWord (nI o) = some 0 := by rw [pStore ho, if_neg h]
theorem pPlain {o : Nat} (ho : o < 53) : fnX6_isPlain (nI o) = some (if 0 ≤ o ∧ o ≤ 32 then 1 else 0) := rng (a := 0) (b := 32) ho (by omega) rfl (by omega)
theorem ite_8 {c : Prop} [Decidable c] {a b : Nat} (ha : a ≤ 8) (hb : b ≤ 8) : (if c then a else b) ≤ 8 := by
  by_cases h : c
  · rw [if_pos h]; exact ha
  · rw [if_neg h]; exact hb
theorem cfl_8 {o st n b lo : Nat} {top : Int32} : cfl o st n b lo top ≤ 8 := by
  have h1 : s129 o n top ≤ 8 := ite_8 (by omega) (by omega)
  have h2 : s108 o n lo top ≤ 8 := ite_8 (ite_8 h1 (by omega)) h1
  have h3 : s84 o n b lo top ≤ 8 := ite_8 (ite_8 h2 (by omega)) h2
  have h4 : s66 o n b lo top ≤ 8 := ite_8 (ite_8 (by omega) h3) h3
  have h5 : s0 o n b lo top ≤ 8 := ite_8 (ite_8 (by omega) h4) h4
  exact ite_8 (ite_8 h5 (by omega)) (by omega)
section
variable {ds lc ll ce en re lb v la : Nat → Int32} {pl co x : Int32} {lo bo st n o : Nat}
theorem pX5_doWord (ho : o < 53) (h1 : o ≠ 34) (h2 : o ≠ 35) (h3 : o ≠ 36) (hn : n ≤ 32) (hlo : lo ≤ 12) (hb : bo ≤ 12) (hst : st ≤ 1000) : fnX5_doWord ds lc ll (nI lo) ce en re lb (nI bo) pl (nI st) v (nI n) la co (nI o) x = if cfl o st n bo lo (tp v n 0) = 0 then fnX5_doWord_29 ds (nI o) x lc ll (nI lo) ce en re lb (nI bo) pl (nI (st + 1)) v (nI n) la co else some (nI (cfl o st n bo lo (tp v n 0)), lc, ll, nI lo, ce, en, re, lb, nI bo, pl, nI st, v, nI n, la, co) := by
  unfold fnX5_doWord
  rw [pX6_isStep ho h1 h2 h3, bd1_s, if_neg (by decide), pX5_faultOf ho hn hlo hb hst, bd1_s, nI_1]
  by_cases hc : cfl o st n bo lo (tp v n 0) = 0
  · rw [if_pos hc, if_pos (by rw [hc]; rfl)]
  · have hle : cfl o st n bo lo (tp v n 0) ≤ 8 := by
      exact cfl_8
    rw [if_neg hc, if_neg (ne_L 0 0 hc)]
theorem d29_stack (ho : o ≤ 8) : fnX5_doWord_29 ds (nI o) x lc ll (nI lo) ce en re lb (nI bo) pl (nI st) v (nI n) la co = bd2 (fnX5_arrange v (nI n) (nI o)) fun v' n' => some (0, lc, ll, nI lo, ce, en, re, lb, nI bo, pl, nI st, v', n', la, co) := by
  unfold fnX5_doWord_29
  rw [pStackT (by omega), bd1_s, if_neg (by decide)]
theorem d29_pair (ho : 9 ≤ o ∧ o ≤ 23) (h2 : 2 ≤ n) (hn : n ≤ 32) {r : Int32} (hr : fnX5_ofPair (nI o) (tp v n 1) (tp v n 0) = some r) : fnX5_doWord_29 ds (nI o) x lc ll (nI lo) ce en re lb (nI bo) pl (nI st) v (nI n) la co = some (0, lc, ll, nI lo, ce, en, re, lb, nI bo, pl, nI st, upd v (n - 2) r, nI (n - 1), la, co) := by
  unfold fnX5_doWord_29
  have e1 : tp v (n - 1) 0 = tp v n 1 := by
    unfold tp
    rw [if_pos (by omega), if_pos (by omega)]
    congr 1
  rw [pStackF (by omega) (by omega), bd1_s, if_pos rfl, pPairT ho, bd1_s, if_neg (by decide), pX7_take' (by omega) hn, bd2_s, pX7_take' (by omega) (by omega), bd2_s, e1, hr, bd1_s, show n - 1 - 1 = n - 2 by omega, pX7_put' (m := n - 1) (by omega) (by omega), bd3_s]
theorem d29_lone (ho : 24 ≤ o ∧ o ≤ 28) (h2 : 1 ≤ n) (hn : n ≤ 32) {r : Int32} (hr : fnX5_ofOne (nI o) (tp v n 0) = some r) : fnX5_doWord_29 ds (nI o) x lc ll (nI lo) ce en re lb (nI bo) pl (nI st) v (nI n) la co = some (0, lc, ll, nI lo, ce, en, re, lb, nI bo, pl, nI st, upd v (n - 1) r, nI n, la, co) := by
  unfold fnX5_doWord_29
  rw [pStackF (by omega) (by omega), bd1_s, if_pos rfl, pPairF (by omega) (by omega), bd1_s, if_pos rfl, pLoneT ho, bd1_s, if_neg (by decide), pX7_take' (by omega) hn, bd2_s, hr, bd1_s, pX7_put' (m := n) (by omega) (by omega), bd3_s]
theorem d29_store (ho : 29 ≤ o ∧ o ≤ 32) : fnX5_doWord_29 ds (nI o) x lc ll (nI lo) ce en re lb (nI bo) pl (nI st) v (nI n) la co = bd5 (fnX5_store ce v (nI n) la co (nI o)) fun ce' v' n' la' co' => some (0, lc, ll, nI lo, ce', en, re, lb, nI bo, pl, nI st, v', n', la', co') := by
  unfold fnX5_doWord_29
  rw [pStackF (by omega) (by omega), bd1_s, if_pos rfl, pPairF (by omega) (by omega), bd1_s, if_pos rfl, pLoneF (by omega) (by omega), bd1_s, if_pos rfl, pStoreT ho, bd1_s, if_neg (by decide)]
theorem d29_control (ho : 33 ≤ o) (h53 : o < 53) : fnX5_doWord_29 ds (nI o) x lc ll (nI lo) ce en re lb (nI bo) pl (nI st) v (nI n) la co = bd10 (fnX5_control ds lc ll (nI lo) en re lb (nI bo) pl v (nI n) (nI o) x) fun lc' ll' lo' en' re' lb' bo' pl' v' n' => some (0, lc', ll', lo', ce, en', re', lb', bo', pl', nI st, v', n', la, co) := by
  unfold fnX5_doWord_29
  rw [pStackF (by omega) (by omega), bd1_s, if_pos rfl, pPairF (by omega) (by omega), bd1_s, if_pos rfl, pLoneF (by omega) (by omega), bd1_s, if_pos rfl, pStoreF (by omega) (by omega), bd1_s, if_pos rfl]
end
theorem pi_low : ∀ p, p ≤ 8 → piT p = p := by decide +kernel
theorem pi_pair : ∀ p, p < 33 → ((9 ≤ p ∧ p ≤ 13) ∨ (16 ≤ p ∧ p ≤ 20) ∨ (22 ≤ p ∧ p ≤ 26)) → 9 ≤ piT p ∧ piT p ≤ 23 ∧ tkN (piT p) = 2 := by decide +kernel
theorem pi_lone : ∀ p, p < 33 → (p = 14 ∨ p = 15 ∨ p = 21 ∨ p = 27 ∨ p = 28) → 24 ≤ piT p ∧ piT p ≤ 28 ∧ tkN (piT p) = 1 := by decide +kernel
theorem m183_made {k mem ou : Nat → Int32} {outs st flt t b a c : Int32} {n p : Nat} (hp : p < 33) (h9 : 9 ≤ p ∧ p ≤ 29) : fnX12_plainStep_183 (nI p) t b a c k (nI n) mem ou outs st flt = fnX12_plainStep_576 (nI p) b a k (nI n - t) mem ou outs (st + 1) flt := by
  unfold fnX12_plainStep_183
  rcases (show p = 9 ∨ p = 10 ∨ p = 11 ∨ p = 12 ∨ p = 13 ∨ p = 14 ∨ p = 15 ∨ p = 16 ∨ p = 17 ∨ p = 18 ∨ p = 19 ∨ p = 20 ∨ p = 21 ∨ p = 22 ∨ p = 23 ∨ p = 24 ∨ p = 25 ∨ p = 26 ∨ p = 27 ∨ p = 28 ∨ p = 29 by omega) with rfl | rfl | rfl | rfl | rfl | rfl | rfl | rfl | rfl | rfl | rfl | rfl | rfl | rfl | rfl | rfl | rfl | rfl | rfl | rfl | rfl <;> rfl
theorem m183_30 {k mem ou : Nat → Int32} {outs st flt t b a c h : Int32} : fnX12_plainStep_183 (nI 30) t b a c k h mem ou outs st flt = bd1 (sa 16 mem b a) fun f => some ((1 : Int32), k, h - t, f, ou, outs, st + 1, flt) := by
  unfold fnX12_plainStep_183
  rw [if_neg (by decide), if_neg (by decide), if_neg (by decide), if_neg (by decide), if_neg (by decide), if_neg (by decide), if_neg (by decide), if_neg (by decide), if_neg (by decide), if_neg (by decide), if_neg (by decide), if_neg (by decide), if_neg (by decide), if_neg (by decide), if_neg (by decide), if_neg (by decide), if_neg (by decide), if_neg (by decide), if_neg (by decide), if_neg (by decide), if_neg (by decide), if_neg (by decide), if_neg (by decide), if_neg (by decide), if_neg (by decide), if_neg (by decide), if_neg (by decide), if_neg (by decide), if_neg (by decide), if_neg (by decide), if_pos (by decide)]
theorem m183_31 {k mem ou : Nat → Int32} {outs st flt t b a c h : Int32} : fnX12_plainStep_183 (nI 31) t b a c k h mem ou outs st flt = bd1 (ga 16 mem b) fun x => bd1 (sa 16 mem b (x + a)) fun f => some ((1 : Int32), k, h - t, f, ou, outs, st + 1, flt) := by
  unfold fnX12_plainStep_183
  rw [if_neg (by decide), if_neg (by decide), if_neg (by decide), if_neg (by decide), if_neg (by decide), if_neg (by decide), if_neg (by decide), if_neg (by decide), if_neg (by decide), if_neg (by decide), if_neg (by decide), if_neg (by decide), if_neg (by decide), if_neg (by decide), if_neg (by decide), if_neg (by decide), if_neg (by decide), if_neg (by decide), if_neg (by decide), if_neg (by decide), if_neg (by decide), if_neg (by decide), if_neg (by decide), if_neg (by decide), if_neg (by decide), if_neg (by decide), if_neg (by decide), if_neg (by decide), if_neg (by decide), if_neg (by decide), if_neg (by decide), if_pos (by decide)]
theorem m183_32 {k mem ou : Nat → Int32} {outs st flt t b a c h : Int32} : fnX12_plainStep_183 (nI 32) t b a c k h mem ou outs st flt = fnX12_plainStep_529 fuel_ b 15 k (h - t) mem ou outs (st + 1) flt := by
  unfold fnX12_plainStep_183
  rw [if_neg (by decide), if_neg (by decide), if_neg (by decide), if_neg (by decide), if_neg (by decide), if_neg (by decide), if_neg (by decide), if_neg (by decide), if_neg (by decide), if_neg (by decide), if_neg (by decide), if_neg (by decide), if_neg (by decide), if_neg (by decide), if_neg (by decide), if_neg (by decide), if_neg (by decide), if_neg (by decide), if_neg (by decide), if_neg (by decide), if_neg (by decide), if_neg (by decide), if_neg (by decide), if_neg (by decide), if_neg (by decide), if_neg (by decide), if_neg (by decide), if_neg (by decide), if_neg (by decide), if_neg (by decide), if_neg (by decide), if_neg (by decide), if_pos (by decide)]
theorem m576 {k mem ou : Nat → Int32} {outs st flt b a x : Int32} {m p : Nat} {v : Int64} (hm : m < 33) (h : fnX12_made mem (nI p) a b = some v) (hx : v.toInt32 = x) : fnX12_plainStep_576 (nI p) b a k (nI m) mem ou outs st flt = some (1, upd k m x, nI (m + 1), mem, ou, outs, st, flt) := by
  unfold fnX12_plainStep_576 fnX12_put
  rw [h, bd1_s, hx, sa_n hm (by omega), bd1_s, bd2_s, nI_1]
/-- what class and reference share of the data that words work on -/
def DR (v k ce mem la ou : Nat → Int32) (co : Int32) (n : Nat) : Prop := n ≤ 32 ∧ Ag v k n ∧ Ag ce mem 16 ∧ TR la co ou
theorem readCell {ce : Nat → Int32} {x : Int32} (h1 : ¬ x < 0) (h2 : ¬ 16 ≤ x) : ∃ i, i < 16 ∧ x = nI i ∧ fnX5_readCell ce x = some (ce i) ∧ ∀ y, fnX5_writeCell ce x y = some (upd ce i y) := by
  obtain ⟨i, hi, rfl⟩ := nI_of h1
  have hi2 : i < 16 := by
    rcases Nat.lt_or_ge i 16 with h | h
    · exact h
    · exact absurd ((nI_leI (a := 16) (by omega) hi).mpr h) h2
  refine ⟨i, hi2, rfl, ?_, fun y => ?_⟩
  · unfold fnX5_readCell
    rw [if_neg h1, if_neg h2, ga_n hi2 (by omega), bd1_s]
  · unfold fnX5_writeCell
    rw [if_neg h1, if_neg h2, sa_n hi2 (by omega), bd1_s]
theorem s0_parts {o n b lo : Nat} {top : Int32} (h : s0 o n b lo top = 0) : (o = 29 ∨ o = 30 ∨ o = 31 → ¬ top < 0 ∧ ¬ 16 ≤ top) ∧ (o = 12 ∨ o = 13 → top ≠ 0) ∧ (s129 o n top = 0) := by
  unfold s0 at h
  have h66 : s66 o n b lo top = 0 := by
    by_cases h1 : o = 29 ∨ o = 30 ∨ o = 31
    · rw [if_pos h1] at h
      by_cases h2 : top < 0 ∨ 16 ≤ top
      · rw [if_pos h2] at h; cases h
      · rw [if_neg h2] at h; exact h
    · rw [if_neg h1] at h; exact h
  have h84 : s84 o n b lo top = 0 := by
    unfold s66 at h66
    by_cases h1 : o = 12 ∨ o = 13
    · rw [if_pos h1] at h66
      by_cases h2 : top = 0
      · rw [if_pos h2] at h66; cases h66
      · rw [if_neg h2] at h66; exact h66
    · rw [if_neg h1] at h66; exact h66
  have h108 : s108 o n lo top = 0 := by
    unfold s84 at h84
    by_cases h1 : o = 50 ∨ o = 45
    · rw [if_pos h1] at h84
      by_cases h2 : b < 12
      · rw [if_pos h2] at h84; exact h84
      · rw [if_neg h2] at h84; cases h84
    · rw [if_neg h1] at h84; exact h84
  refine ⟨fun h1 => ?_, fun h1 => ?_, ?_⟩
  · rw [if_pos h1] at h
    by_cases h2 : top < 0 ∨ 16 ≤ top
    · rw [if_pos h2] at h; cases h
    · exact ⟨fun z => h2 (Or.inl z), fun z => h2 (Or.inr z)⟩
  · unfold s66 at h66
    rw [if_pos h1] at h66
    intro h2
    rw [if_pos h2] at h66
    cases h66
  · unfold s108 at h108
    by_cases h1 : o = 41
    · rw [if_pos h1] at h108
      by_cases h2 : lo < 12
      · rw [if_pos h2] at h108; exact h108
      · rw [if_neg h2] at h108; cases h108
    · rw [if_neg h1] at h108; exact h108
theorem cfl_parts {o st n b lo : Nat} {top : Int32} (h : cfl o st n b lo top = 0) : st < 1000 ∧ tkN o ≤ n ∧ s0 o n b lo top = 0 := by
  unfold cfl at h
  by_cases h1 : st < 1000
  · rw [if_pos h1] at h
    by_cases h2 : tkN o ≤ n
    · rw [if_pos h2] at h; exact ⟨h1, h2, h⟩
    · rw [if_neg h2] at h; cases h
  · rw [if_neg h1] at h; cases h
section
variable {ds lc ll ce en re lb v la k mem ou : Nat → Int32} {pl co x flt : Int32} {lo bo st n p : Nat}
/-- the effect, class and reference -/
theorem eff_sim (hp : p < 33) (hD : DR v k ce mem la ou co n) (h0 : cfl (piT p) st n bo lo (tp v n 0) = 0) :
    ∃ (v' k' ce' mem' la' ou' : Nat → Int32) (co' : Int32) (n' : Nat), fnX5_doWord_29 ds (nI (piT p)) x lc ll (nI lo) ce en re lb (nI bo) pl (nI (st + 1)) v (nI n) la co = some (0, lc, ll, nI lo, ce', en, re, lb, nI bo, pl, nI (st + 1), v', nI n', la', co') ∧
      fnX12_plainStep_183 (nI p) (nI (tkN (piT p))) (tp k n 0) (tp k n 1) (tp k n 2) k (nI n) mem ou co (nI st) flt = some (1, k', nI n', mem', ou', co', nI (st + 1), flt) ∧ DR v' k' ce' mem' la' ou' co' n' := by
  obtain ⟨hn, hA, hC, hT⟩ := hD
  obtain ⟨hst, ht, hs⟩ := cfl_parts h0
  obtain ⟨c1, c2, c3⟩ := s0_parts hs
  have es : nI st + 1 = nI (st + 1) := nI_1 st
  by_cases g1 : p ≤ 8
  · rw [pi_low p g1] at ht c3 ⊢
    obtain ⟨v', k', n', a1, a2, a3, a4⟩ := arr_sim (mem := mem) (ou := ou) (outs := co) (flt := flt) (st := st) g1 hn ht c3 hA
    rw [d29_stack g1, a1, bd2_s]
    exact ⟨v', k', ce, mem, la, ou, co, n', rfl, a2, a3, a4, hC, hT⟩
  by_cases g2 : (9 ≤ p ∧ p ≤ 13) ∨ (16 ≤ p ∧ p ≤ 20) ∨ (22 ≤ p ∧ p ≤ 26)
  · obtain ⟨b1, b2, b3⟩ := pi_pair p hp g2
    rw [b3] at ht ⊢
    obtain ⟨r, w, e1, e2, e3⟩ := pair_sim (mem := mem) (a := tp v n 1) (b := tp v n 0) g2 (fun z => c2 ((pi12 p hp).mpr z))
    rw [d29_pair ⟨b1, b2⟩ ht hn e1, m183_made hp (by omega), show nI n - nI 2 = nI (n - 2) from pk_sub ht]
    rw [Ag_tp hA, Ag_tp hA] at e2
    rw [m576 (by omega) e2 e3, es, show n - 2 + 1 = n - 1 by omega]
    refine ⟨_, _, ce, mem, la, ou, co, n - 1, rfl, rfl, by omega, ?_, hC, hT⟩
    have a1 := Ag_up (Ag_le hA (show n - 2 ≤ n by omega)) r
    rw [show n - 2 + 1 = n - 1 by omega] at a1
    exact a1
  by_cases g3 : p = 14 ∨ p = 15 ∨ p = 21 ∨ p = 27 ∨ p = 28
  · obtain ⟨b1, b2, b3⟩ := pi_lone p hp g3
    rw [b3] at ht ⊢
    obtain ⟨r, w, e1, e2, e3⟩ := lone_sim (mem := mem) (a := tp k n 1) (b := tp v n 0) g3
    rw [d29_lone ⟨b1, b2⟩ ht hn e1, m183_made hp (by omega), show nI n - nI 1 = nI (n - 1) from pk_sub ht]
    rw [Ag_tp hA] at e2
    rw [m576 (by omega) e2 e3, es, show n - 1 + 1 = n by omega]
    refine ⟨_, _, ce, mem, la, ou, co, n, rfl, rfl, hn, ?_, hC, hT⟩
    have a1 := Ag_up (Ag_le hA (show n - 1 ≤ n by omega)) r
    rw [show n - 1 + 1 = n by omega] at a1
    exact a1
  have t0 : 1 ≤ n → tp v n 0 = tp k n 0 := fun _ => Ag_tp hA 0
  rcases (show p = 29 ∨ p = 30 ∨ p = 31 ∨ p = 32 by omega) with rfl | rfl | rfl | rfl
  · -- @
    have ht : 1 ≤ n := ht
    obtain ⟨d1, d2⟩ := c1 (Or.inl rfl)
    obtain ⟨i, hi, ei, er, -⟩ := readCell (ce := ce) d1 d2
    rw [show piT 29 = 29 from rfl, d29_store (by omega)]
    unfold fnX5_store
    rw [pX7_take' ht hn, bd2_s, if_pos (by decide), er, bd1_s, pX7_put' (m := n) (by omega) (by omega), bd3_s, bd5_s, m183_made hp (by omega), show nI n - nI (tkN 29) = nI (n - 1) from pk_sub ht]
    have em : fnX12_made mem (nI 29) (tp k n 1) (tp k n 0) = some (mem i).toInt64 := by
      rw [← t0 ht, ei]
      unfold fnX12_made
      show (bd1 (ga 16 mem (nI i)) fun x_31 => some x_31.toInt64) = _
      rw [ga_n hi (by omega), bd1_s]
    rw [m576 (by omega) em (i6432 _), es, show n - 1 + 1 = n by omega, ← hC i hi]
    refine ⟨_, _, ce, mem, la, ou, co, n, rfl, rfl, hn, ?_, hC, hT⟩
    have a1 := Ag_up (Ag_le hA (show n - 1 ≤ n by omega)) (ce i)
    rw [show n - 1 + 1 = n by omega] at a1
    exact a1
  · -- !
    have ht : 2 ≤ n := ht
    obtain ⟨d1, d2⟩ := c1 (Or.inr (Or.inl rfl))
    obtain ⟨i, hi, ei, -, ew⟩ := readCell (ce := ce) d1 d2
    have e1 : tp v (n - 1) 0 = tp k n 1 := by
      rw [← Ag_tp hA]
      unfold tp
      rw [if_pos (by omega), if_pos (by omega)]
      congr 1
    rw [show piT 30 = 30 from rfl, d29_store (by omega)]
    unfold fnX5_store
    rw [pX7_take' (by omega) hn, bd2_s, if_neg (by decide), if_pos (by decide), pX7_take' (by omega) (by omega), bd2_s, ew, bd1_s, bd5_s, e1]
    have em : fnX12_plainStep_183 (nI 30) (nI (tkN 30)) (tp k n 0) (tp k n 1) (tp k n 2) k (nI n) mem ou co (nI st) flt = some (1, k, nI (n - 2), upd mem i (tp k n 1), ou, co, nI (st + 1), flt) := by
      rw [← t0 (by omega), ei]
      rw [m183_30, sa_n hi (by omega), bd1_s, es, show nI n - nI (tkN 30) = nI (n - 2) from pk_sub ht]
    rw [em, show n - 1 - 1 = n - 2 by omega]
    refine ⟨_, _, _, _, la, ou, co, n - 2, rfl, rfl, by omega, Ag_le hA (by omega), fun j hj => ?_, hT⟩
    by_cases e : j = i
    · subst e; rw [pk_us, pk_us]
    · rw [pk_un e, pk_un e]; exact hC j hj
  · -- +!
    have ht : 2 ≤ n := ht
    obtain ⟨d1, d2⟩ := c1 (Or.inr (Or.inr rfl))
    obtain ⟨i, hi, ei, er, ew⟩ := readCell (ce := ce) d1 d2
    have e1 : tp v (n - 1) 0 = tp k n 1 := by
      rw [← Ag_tp hA]
      unfold tp
      rw [if_pos (by omega), if_pos (by omega)]
      congr 1
    rw [show piT 31 = 31 from rfl, d29_store (by omega)]
    unfold fnX5_store
    rw [pX7_take' (by omega) hn, bd2_s, if_neg (by decide), if_neg (by decide), if_pos (by decide), er, bd1_s, pX7_take' (by omega) (by omega), bd2_s, ew, bd1_s, bd5_s, e1]
    have em : fnX12_plainStep_183 (nI 31) (nI (tkN 31)) (tp k n 0) (tp k n 1) (tp k n 2) k (nI n) mem ou co (nI st) flt = some (1, k, nI (n - 2), upd mem i (mem i + tp k n 1), ou, co, nI (st + 1), flt) := by
      rw [← t0 (by omega), ei]
      rw [m183_31, ga_n hi (by omega), bd1_s, sa_n hi (by omega), bd1_s, es, show nI n - nI (tkN 31) = nI (n - 2) from pk_sub ht]
    rw [em, show n - 1 - 1 = n - 2 by omega, hC i hi]
    refine ⟨_, _, _, _, la, ou, co, n - 2, rfl, rfl, by omega, Ag_le hA (by omega), fun j hj => ?_, hT⟩
    by_cases e : j = i
    · subst e; rw [pk_us, pk_us]
    · rw [pk_un e, pk_un e]; exact hC j hj
  · -- .
    have ht : 1 ≤ n := ht
    rw [show piT 32 = 32 from rfl, d29_store (by omega)]
    unfold fnX5_store
    rw [pX7_take' ht hn, bd2_s, if_neg (by decide), if_neg (by decide), if_neg (by decide), pX8_add, bd2_s, bd5_s]
    obtain ⟨w', hw, hw2⟩ := m529 (b := tp k n 0) (k := k) (mem := mem) (h := nI n - nI (tkN 32)) (outs := co) (st := nI st + 1) (flt := flt) 15 fuel_ ou ou (by omega) (by unfold fuel_; omega) (fun _ _ => rfl) (fun j h1 h2 => absurd h2 (by omega)) (fun _ _ => rfl)
    have em : fnX12_plainStep_183 (nI 32) (nI (tkN 32)) (tp k n 0) (tp k n 1) (tp k n 2) k (nI n) mem ou co (nI st) flt = some (1, k, nI (n - 1), mem, w', co + 1, nI (st + 1), flt) := by
      rw [m183_32, ← es, ← show nI n - nI (tkN 32) = nI (n - 1) from pk_sub ht]
      exact hw
    rw [em]
    refine ⟨_, _, ce, mem, _, w', co + 1, n - 1, rfl, rfl, by omega, Ag_le hA (by omega), hC, fun j hj => ?_⟩
    rw [hw2 j, Ag_tp hA]
    exact TR_add hT j hj
/-- a plain word, both at once: the same fault, or the same effect -/
theorem plain_sim (hp : p < 33) (hD : DR v k ce mem la ou co n) (hlo : lo ≤ 12) (hb : bo ≤ 12) (hst : st ≤ 1000) :
    (∃ f : Nat, 0 < f ∧ f ≤ 8 ∧ fnX5_doWord ds lc ll (nI lo) ce en re lb (nI bo) pl (nI st) v (nI n) la co (nI (piT p)) x = some (nI f, lc, ll, nI lo, ce, en, re, lb, nI bo, pl, nI st, v, nI n, la, co) ∧ fnX12_plainStep k (nI n) mem ou co (nI st) flt (nI p) = some (0, k, nI n, mem, ou, co, nI st, nI f)) ∨
    (st < 1000 ∧ ∃ (v' k' ce' mem' la' ou' : Nat → Int32) (co' : Int32) (n' : Nat), fnX5_doWord ds lc ll (nI lo) ce en re lb (nI bo) pl (nI st) v (nI n) la co (nI (piT p)) x = some (0, lc, ll, nI lo, ce', en, re, lb, nI bo, pl, nI (st + 1), v', nI n', la', co') ∧ fnX12_plainStep k (nI n) mem ou co (nI st) flt (nI p) = some (1, k', nI n', mem', ou', co', nI (st + 1), flt) ∧ DR v' k' ce' mem' la' ou' co' n') := by
  have hq := (mtk p hp).2
  have hle : piT p ≤ 32 := (vk_plain p hp).2
  have e1 := pX5_doWord (ds := ds) (lc := lc) (ll := ll) (ce := ce) (en := en) (re := re) (lb := lb) (v := v) (la := la) (pl := pl) (co := co) (x := x) (lo := lo) (bo := bo) (st := st) (n := n) hq (by omega) (by omega) (by omega) hD.1 hlo hb hst
  have e2 := pX12_plainStep (k := k) (mem := mem) (ou := ou) (outs := co) (flt := flt) hp hD.1 hst
  have e3 : mfl p st n (tp k n 0) = cfl (piT p) st n bo lo (tp v n 0) := by rw [cfl_plain hp, Ag_tp hD.2.1]
  rw [e3] at e2
  by_cases h0 : cfl (piT p) st n bo lo (tp v n 0) = 0
  · right
    rw [if_pos h0] at e1 e2
    obtain ⟨v', k', ce', mem', la', ou', co', n', a1, a2, a3⟩ := eff_sim (ds := ds) (lc := lc) (ll := ll) (en := en) (re := re) (lb := lb) (pl := pl) (x := x) (flt := flt) hp hD h0
    exact ⟨(cfl_parts h0).1, v', k', ce', mem', la', ou', co', n', e1.trans a1, e2.trans a2, a3⟩
  · left
    rw [if_neg h0] at e1 e2
    refine ⟨_, by omega, ?_, e1, e2⟩
    exact cfl_8
end
