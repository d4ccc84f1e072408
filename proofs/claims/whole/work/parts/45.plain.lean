/-! the reference's step of a plain word: its fault -/
theorem i15 {x : Int32} : ¬ x ≤ 15 ↔ 16 ≤ x := by
  rw [Int32.le_iff_toInt_le, Int32.le_iff_toInt_le]
  show ¬ _ ≤ (15 : Int) ↔ (16 : Int) ≤ _
  omega
theorem mtk : ∀ p, p < 33 → fnX12_takes (nI p) = some (nI (tkN (piT p))) ∧ piT p < 53 := by decide +kernel
/-- the word makes the stack grow -/
def grw (p : Nat) (top : Int32) : Prop := p = 0 ∨ p = 3 ∨ p = 6 ∨ p = 8 ∨ (p = 7 ∧ top ≠ 0)
theorem pX12_put {k : Nat → Int32} {n : Nat} {x : Int32} (h : n < 33) : fnX12_put k (nI n) x.toInt64 = some (upd k n x, nI (n + 1)) := by
  unfold fnX12_put
  rw [i6432, sa_n h (by omega), bd1_s, nI_1]
theorem pX12_grows {k : Nat → Int32} {n p : Nat} (hp : p < 33) (hn : n ≤ 32) (h7 : p = 7 → 1 ≤ n) : (grw p (tp k n 0) → fnX12_grows k (nI n) (nI p) = some 1) ∧ (¬ grw p (tp k n 0) → fnX12_grows k (nI n) (nI p) = some 0) := by
  unfold fnX12_grows grw
  by_cases h0 : p = 0
  · rw [if_pos (by rw [h0]; rfl)]; exact ⟨fun _ => rfl, fun z => absurd (Or.inl h0) z⟩
  rw [if_neg (ne_L 0 0 h0)]
  by_cases h3 : p = 3
  · rw [if_pos (by rw [h3]; rfl)]; exact ⟨fun _ => rfl, fun z => absurd (Or.inr (Or.inl h3)) z⟩
  rw [if_neg (ne_L 3 3 h3)]
  by_cases h6 : p = 6
  · rw [if_pos (by rw [h6]; rfl)]; exact ⟨fun _ => rfl, fun z => absurd (Or.inr (Or.inr (Or.inl h6))) z⟩
  rw [if_neg (ne_L 6 6 h6)]
  by_cases h8 : p = 8
  · rw [if_pos (by rw [h8]; rfl)]; exact ⟨fun _ => rfl, fun z => absurd (Or.inr (Or.inr (Or.inr (Or.inl h8)))) z⟩
  rw [if_neg (ne_L 8 8 h8)]
  by_cases h : p = 7
  · have hn1 := h7 h
    rw [if_pos (by rw [h]; rfl)]
    have e1 : nI n - 1 = nI (n - 1) := pk_sub (a := n) (b := 1) (by omega)
    rw [e1, ga_n (by omega) (by omega), bd1_s]
    have e2 : tp k n 0 = k (n - 1) := by unfold tp; rw [if_pos (by omega)]; rfl
    rw [e2]
    by_cases hz : k (n - 1) = 0
    · rw [if_pos hz]; exact ⟨fun z => absurd hz ((((z.resolve_left h0).resolve_left h3).resolve_left h6).resolve_left h8).2, fun _ => rfl⟩
    · rw [if_neg hz]; exact ⟨fun _ => rfl, fun z => absurd (Or.inr (Or.inr (Or.inr (Or.inr ⟨h, hz⟩)))) z⟩
  · rw [if_neg (ne_L 7 7 h)]; exact ⟨fun z => by omega, fun _ => rfl⟩
/-- the reference's fault -/
def mfl (p st n : Nat) (top : Int32) : Nat := cfl (piT p) st n 0 0 top
theorem cfl_plain {p st n b lo : Nat} {top : Int32} (hp : p < 33) : cfl (piT p) st n b lo top = mfl p st n top := by
  unfold mfl cfl s0 s66 s84 s108
  have h1 : ∀ p, p < 33 → piT p ≠ 50 ∧ piT p ≠ 45 ∧ piT p ≠ 41 := by decide +kernel
  obtain ⟨a1, a2, a3⟩ := h1 p hp
  simp only [a1, a2, a3, or_self, if_false]
theorem s129_plain {p n : Nat} {top : Int32} (hp : p < 33) (hn : n ≤ 32) (ht : tkN (piT p) ≤ n) : (grw p top ∧ n = 32 → s129 (piT p) n top = 4) ∧ (¬ (grw p top ∧ n = 32) → s129 (piT p) n top = 0) := by
  unfold s129 grw
  rcases (show p = 0 ∨ p = 1 ∨ p = 2 ∨ p = 3 ∨ p = 4 ∨ p = 5 ∨ p = 6 ∨ p = 7 ∨ p = 8 ∨ p = 9 ∨ p = 10 ∨ p = 11 ∨ p = 12 ∨ p = 13 ∨ p = 14 ∨ p = 15 ∨ p = 16 ∨ p = 17 ∨ p = 18 ∨ p = 19 ∨ p = 20 ∨ p = 21 ∨ p = 22 ∨ p = 23 ∨ p = 24 ∨ p = 25 ∨ p = 26 ∨ p = 27 ∨ p = 28 ∨ p = 29 ∨ p = 30 ∨ p = 31 ∨ p = 32 by omega) with rfl | rfl | rfl | rfl | rfl | rfl | rfl | rfl | rfl | rfl | rfl | rfl | rfl | rfl | rfl | rfl | rfl | rfl | rfl | rfl | rfl | rfl | rfl | rfl | rfl | rfl | rfl | rfl | rfl | rfl | rfl | rfl | rfl <;> simp only [piT, piL, tkN, gvN, List.getD_cons_zero, List.getD_cons_succ] at ht ⊢ <;> by_cases hz : top = 0 <;> simp [hz] <;> omega
theorem pi29 : ∀ p, p < 33 → ((piT p = 29 ∨ piT p = 30 ∨ piT p = 31) ↔ (29 ≤ p ∧ p ≤ 31)) := by decide +kernel
theorem pi12 : ∀ p, p < 33 → ((piT p = 12 ∨ piT p = 13) ↔ (p = 12 ∨ p = 13)) := by decide +kernel
section
variable {k mem ou : Nat → Int32} {outs flt : Int32} {n st p : Nat}
theorem m_stop {f : Nat} : (bd2 (fnX12_stop flt (nI f)) fun r_1 Mo_fault_1 => gd_ (r_1 = 0 ∨ r_1 = 1) (some (r_1, k, nI n, mem, ou, outs, nI st, Mo_fault_1))) = some (0, k, nI n, mem, ou, outs, nI st, nI f) := by
  unfold fnX12_stop
  rw [bd2_s]
  exact gd_t (Or.inl rfl)
theorem m160 {x4 x5 : Int32} (hp : p < 33) (hn : n ≤ 32) (ht : tkN (piT p) ≤ n) : fnX12_plainStep_160 (nI p) (nI (tkN (piT p))) (tp k n 0) x4 x5 k (nI n) mem ou outs (nI st) flt = if s129 (piT p) n (tp k n 0) = 0 then fnX12_plainStep_183 (nI p) (nI (tkN (piT p))) (tp k n 0) x4 x5 k (nI n) mem ou outs (nI st) flt else some (0, k, nI n, mem, ou, outs, nI st, nI (s129 (piT p) n (tp k n 0))) := by
  obtain ⟨a1, a2⟩ := pX12_grows (k := k) hp hn (fun e => by subst e; exact ht)
  obtain ⟨b1, b2⟩ := s129_plain (top := tp k n 0) hp hn ht
  unfold fnX12_plainStep_160
  by_cases hg : grw p (tp k n 0)
  · rw [a1 hg, bd1_s, if_neg (by decide)]
    by_cases h32 : n = 32
    · rw [if_pos (by rw [h32]; rfl), b1 ⟨hg, h32⟩, if_neg (by decide)]
      exact m_stop (f := 4)
    · rw [if_neg (ne_L 32 32 h32), b2 (fun z => h32 z.2), if_pos rfl]
  · rw [a2 hg, bd1_s, if_pos rfl, b2 (fun z => hg z.1), if_pos rfl]
theorem m138 {x4 x5 : Int32} (hp : p < 33) (hn : n ≤ 32) (ht : tkN (piT p) ≤ n) : fnX12_plainStep_138 (nI p) (nI (tkN (piT p))) (tp k n 0) x4 x5 k (nI n) mem ou outs (nI st) flt = if s66 (piT p) n 0 0 (tp k n 0) = 0 then fnX12_plainStep_183 (nI p) (nI (tkN (piT p))) (tp k n 0) x4 x5 k (nI n) mem ou outs (nI st) flt else some (0, k, nI n, mem, ou, outs, nI st, nI (s66 (piT p) n 0 0 (tp k n 0))) := by
  have h1 : ∀ p, p < 33 → piT p ≠ 50 ∧ piT p ≠ 45 ∧ piT p ≠ 41 := by decide +kernel
  obtain ⟨a1, a2, a3⟩ := h1 p hp
  have e84 : s84 (piT p) n 0 0 (tp k n 0) = s129 (piT p) n (tp k n 0) := by
    unfold s84 s108
    rw [if_neg (fun z => z.elim a1 a2), if_neg a3]
  have e150 : fnX12_plainStep_150 (nI p) (nI (tkN (piT p))) (tp k n 0) x4 x5 k (nI n) mem ou outs (nI st) flt = if (if tp k n 0 = 0 then 5 else s129 (piT p) n (tp k n 0)) = 0 then fnX12_plainStep_183 (nI p) (nI (tkN (piT p))) (tp k n 0) x4 x5 k (nI n) mem ou outs (nI st) flt else some (0, k, nI n, mem, ou, outs, nI st, nI (if tp k n 0 = 0 then 5 else s129 (piT p) n (tp k n 0))) := by
    unfold fnX12_plainStep_150
    by_cases hz : tp k n 0 = 0
    · rw [if_pos hz, if_pos hz, if_neg (by decide)]
      exact m_stop (f := 5)
    · rw [if_neg hz, if_neg hz]
      exact m160 hp hn ht
  unfold fnX12_plainStep_138 s66
  rw [e84]
  by_cases g1 : p = 12
  · rw [if_pos (by rw [g1]; rfl), e150, if_pos ((pi12 p hp).mpr (Or.inl g1))]
  · rw [if_neg (ne_L 12 12 g1)]
    by_cases g2 : p = 13
    · rw [if_pos (by rw [g2]; rfl), e150, if_pos ((pi12 p hp).mpr (Or.inr g2))]
    · rw [if_neg (ne_L 13 13 g2), if_neg (fun z => ((pi12 p hp).mp z).elim g1 g2)]
      exact m160 hp hn ht
theorem m107 {x4 x5 : Int32} (hp : p < 33) (hn : n ≤ 32) (ht : tkN (piT p) ≤ n) : fnX12_plainStep_107 (nI p) (nI (tkN (piT p))) (tp k n 0) x4 x5 k (nI n) mem ou outs (nI st) flt = if s0 (piT p) n 0 0 (tp k n 0) = 0 then fnX12_plainStep_183 (nI p) (nI (tkN (piT p))) (tp k n 0) x4 x5 k (nI n) mem ou outs (nI st) flt else some (0, k, nI n, mem, ou, outs, nI st, nI (s0 (piT p) n 0 0 (tp k n 0))) := by
  unfold fnX12_plainStep_107 s0
  by_cases g1 : p < 29
  · rw [if_pos (sR_t 29 29 g1), if_neg (fun z => absurd ((pi29 p hp).mp z) (by omega))]
    exact m138 hp hn ht
  · rw [if_neg (sR_f 29 29 g1)]
    by_cases g2 : 31 < p
    · rw [if_pos (sL_t 31 31 g2), if_neg (fun z => absurd ((pi29 p hp).mp z) (by omega))]
      exact m138 hp hn ht
    · rw [if_neg (sL_f 31 31 g2), if_pos ((pi29 p hp).mpr (by omega))]
      by_cases h1 : tp k n 0 < 0
      · rw [if_pos h1, if_pos (Or.inl h1), if_neg (by decide)]
        unfold fnX12_plainStep_131
        exact m_stop (f := 6)
      · rw [if_neg h1]
        by_cases h2 : tp k n 0 ≤ 15
        · rw [if_pos h2, if_neg (show ¬ (tp k n 0 < 0 ∨ 16 ≤ tp k n 0) from fun z => z.elim h1 (fun z => i15.mpr z h2))]
          exact m138 hp hn ht
        · rw [if_neg h2, if_pos (Or.inr (i15.mp h2)), if_neg (by decide)]
          unfold fnX12_plainStep_131
          exact m_stop (f := 6)
theorem pX12_plainStep (hp : p < 33) (hn : n ≤ 32) (hst : st ≤ 1000) : fnX12_plainStep k (nI n) mem ou outs (nI st) flt (nI p) = if mfl p st n (tp k n 0) = 0 then fnX12_plainStep_183 (nI p) (nI (tkN (piT p))) (tp k n 0) (tp k n 1) (tp k n 2) k (nI n) mem ou outs (nI st) flt else some (0, k, nI n, mem, ou, outs, nI st, nI (mfl p st n (tp k n 0))) := by
  unfold fnX12_plainStep mfl cfl
  rw [(mtk p hp).1, bd1_s]
  by_cases h1 : st < 1000
  · rw [if_neg (ne_L 1000 1000 (by omega)), if_pos h1]
    by_cases h2 : tkN (piT p) ≤ n
    · have hk3 := (tk_N _ (mtk p hp).2).2
      rw [if_pos ((nI_leI (by omega) (by omega)).mpr h2), if_pos h2]
      have e82 : ∀ a, a = tp k n 1 → fnX12_plainStep_82 (nI p) (nI (tkN (piT p))) (tp k n 0) a k (nI n) mem ou outs (nI st) flt = fnX12_plainStep_107 (nI p) (nI (tkN (piT p))) (tp k n 0) (tp k n 1) (tp k n 2) k (nI n) mem ou outs (nI st) flt := by
        intro a ha
        subst ha
        unfold fnX12_plainStep_82
        by_cases h : n ≤ 2
        · rw [if_pos (lR_t 2 2 h), show tp k n 2 = 0 from if_neg (by omega)]
        · rw [if_neg (lR_f 2 2 h), show nI n - 3 = nI (n - 3) from pk_sub (a := n) (b := 3) (by omega), ga_n (by omega) (by omega), bd1_s, show tp k n 2 = k (n - 3) from (if_pos (by omega)).trans (congrArg k (by omega))]
      have e58 : ∀ a, a = tp k n 0 → fnX12_plainStep_58 (nI p) (nI (tkN (piT p))) a k (nI n) mem ou outs (nI st) flt = fnX12_plainStep_107 (nI p) (nI (tkN (piT p))) (tp k n 0) (tp k n 1) (tp k n 2) k (nI n) mem ou outs (nI st) flt := by
        intro a ha
        subst ha
        unfold fnX12_plainStep_58
        by_cases h : n ≤ 1
        · rw [if_pos (lR_t 1 1 h)]
          exact e82 0 (if_neg (by omega)).symm
        · rw [if_neg (lR_f 1 1 h), show nI n - 2 = nI (n - 2) from pk_sub (a := n) (b := 2) (by omega), ga_n (by omega) (by omega), bd1_s]
          exact e82 _ ((if_pos (by omega)).trans (congrArg k (by omega))).symm
      have key : ∀ X, X = fnX12_plainStep_107 (nI p) (nI (tkN (piT p))) (tp k n 0) (tp k n 1) (tp k n 2) k (nI n) mem ou outs (nI st) flt → X = if s0 (piT p) n 0 0 (tp k n 0) = 0 then fnX12_plainStep_183 (nI p) (nI (tkN (piT p))) (tp k n 0) (tp k n 1) (tp k n 2) k (nI n) mem ou outs (nI st) flt else some (0, k, nI n, mem, ou, outs, nI st, nI (s0 (piT p) n 0 0 (tp k n 0))) := fun X h => h.trans (m107 hp hn h2)
      by_cases h : n ≤ 0
      · rw [if_pos (lR_t 0 0 h)]
        exact key _ (e58 0 (if_neg (by omega)).symm)
      · rw [if_neg (lR_f 0 0 h), show nI n - 1 = nI (n - 1) from pk_sub (a := n) (b := 1) (by omega), ga_n (by omega) (by omega), bd1_s]
        exact key _ (e58 _ ((if_pos (by omega)).trans (congrArg k (by omega))).symm)
    · have hk3 := (tk_N _ (mtk p hp).2).2
      rw [if_neg (fun z => h2 ((nI_leI (by omega) (by omega)).mp z)), if_neg h2, if_neg (by decide)]
      exact m_stop (f := 3)
  · have e : st = 1000 := by omega
    subst e
    rw [if_pos (show nI 1000 = 1000 from rfl), if_neg h1, if_neg (by decide)]
    exact m_stop (f := 8)
end
