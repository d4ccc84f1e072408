/-! bodies that run: frames, loops -/
/-- the loops that are open before word q of the body that begins at s -/
def DLn (kd wt : Nat → Int32) (s : Nat) : Nat → Nat
  | 0 => 0
  | q + 1 => if kd (s + q) = 2 ∧ wt (s + q) = nI 8 then DLn kd wt s q + 1 else if kd (s + q) = 2 ∧ wt (s + q) = nI 9 then DLn kd wt s q - 1 else DLn kd wt s q
/-- words that are no steps: else, then, begin -/
def nst (kd wt : Nat → Int32) (x : Nat) : Nat := if kd x = 2 ∧ (wt x = nI 1 ∨ wt x = nI 2 ∨ wt x = nI 3) then 1 else 0
def nsc (kd wt : Nat → Int32) : Nat → Nat → Nat
  | 0, _ => 0
  | l + 1, x => nst kd wt x + nsc kd wt l (x + 1)
section
variable {kd wt : Nat → Int32}
theorem nsc_s {x E : Nat} (h : x < E) : nsc kd wt (E - x) x = nst kd wt x + nsc kd wt (E - (x + 1)) (x + 1) := by
  rw [show E - x = (E - (x + 1)) + 1 by omega]; rfl
theorem nsc_mono : ∀ (e x E : Nat), x + e ≤ E → nsc kd wt (E - (x + e)) (x + e) ≤ nsc kd wt (E - x) x := by
  intro e
  induction e with
  | zero => intro x E h; exact Nat.le_refl _
  | succ e ih =>
    intro x E h
    have := ih (x + 1) E (by omega)
    rw [nsc_s (show x < E by omega), show x + (e + 1) = x + 1 + e by omega]
    omega
end
def FR (kd wt : Nat → Int32) (S : Nat → Nat) (sz b lo : Nat) (dd aa L : Nat → Nat) (en re lb rn av ow : Nat → Int32) (pl : Int32) : Prop :=
  b ≤ 12 ∧ lo ≤ 12 ∧ L 0 = 0 ∧ L b = lo ∧
  (∀ i, i < b → dd i < sz ∧ S (dd i) + aa i ≤ S (dd i + 1) ∧ rn i = nI (dd i) ∧ av i = nI (aa i) ∧ en i = nI (S (dd i + 1)) ∧ lb i = nI (L i) ∧ L (i + 1) = L i + DLn kd wt (S (dd i)) (aa i) ∧ (∀ j, L i ≤ j → j < L (i + 1) → ow j = nI i)) ∧
  (∀ i, i + 1 < b → re (i + 1) = nI (S (dd i) + aa i)) ∧
  (0 < b → pl = nI (S (dd (b - 1)) + aa (b - 1)))
section
variable {kd wt : Nat → Int32} {S : Nat → Nat} {sz b c lo : Nat} {dd aa L : Nat → Nat} {en re lb rn av ow : Nat → Int32} {pl : Int32}
theorem FR_mono (h : FR kd wt S sz b lo dd aa L en re lb rn av ow pl) : ∀ (e i : Nat), i + e ≤ b → L i ≤ L (i + e) := by
  intro e
  induction e with
  | zero => intro i _; exact Nat.le_refl _
  | succ e ih =>
    intro i hi
    have h1 := ih i (by omega)
    obtain ⟨-, -, -, -, -, -, h2, -⟩ := h.2.2.2.2.1 (i + e) (by omega)
    rw [show i + (e + 1) = i + e + 1 by omega, h2]
    omega
theorem FR_le (h : FR kd wt S sz b lo dd aa L en re lb rn av ow pl) {i j : Nat} (hij : i ≤ j) (hj : j ≤ b) : L i ≤ L j := by
  have := FR_mono h (j - i) i (by omega)
  rw [show i + (j - i) = j by omega] at this
  exact this
theorem FR_move (h : FR kd wt S sz (c + 1) lo dd aa L en re lb rn av ow pl) {a' lo' : Nat} {av' ow' : Nat → Int32} (ha : S (dd c) + a' ≤ S (dd c + 1)) (hl : lo' = L c + DLn kd wt (S (dd c)) a') (hlo : lo' ≤ 12) (hat : av' c = nI a') (hat2 : ∀ i, i < c → av' i = av i) (how : ∀ j, j < L c → ow' j = ow j) (how2 : ∀ j, L c ≤ j → j < lo' → ow' j = nI c) {pl' : Int32} (hpl : pl' = nI (S (dd c) + a')) : FR kd wt S sz (c + 1) lo' dd (upn aa c a') (upn L (c + 1) lo') en re lb rn av' ow' pl' := by
  have hle := fun {i j : Nat} (a : i ≤ j) (b : j ≤ c + 1) => FR_le h a b
  obtain ⟨h1, h2, h3, h4, h5, h6, h7⟩ := h
  refine ⟨h1, hlo, ?_, upn_s _ _ _, fun i hi => ?_, fun i hi => ?_, fun _ => ?_⟩
  · rw [upn_n _ _ (by omega)]; exact h3
  · obtain ⟨g1, g2, g3, g4, g5, g6, g7, g8⟩ := h5 i hi
    by_cases e : i = c
    · subst e
      rw [show upn aa i a' i = a' from upn_s _ _ _, show upn L (i + 1) lo' (i + 1) = lo' from upn_s _ _ _, show upn L (i + 1) lo' i = L i from upn_n _ _ (by omega)]
      exact ⟨g1, ha, g3, hat, g5, g6, hl, how2⟩
    · rw [show upn aa c a' i = aa i from upn_n _ _ e, show upn L (c + 1) lo' (i + 1) = L (i + 1) from upn_n _ _ (by omega), show upn L (c + 1) lo' i = L i from upn_n _ _ (by omega)]
      refine ⟨g1, g2, g3, (hat2 i (by omega)).trans g4, g5, g6, g7, fun j j1 j2 => ?_⟩
      have := hle (show i + 1 ≤ c by omega) (by omega)
      rw [how j (by omega)]
      exact g8 j j1 j2
  · rw [show upn aa c a' i = aa i from upn_n _ _ (by omega)]
    exact h6 i hi
  · rw [Nat.add_sub_cancel, upn_s]; exact hpl
theorem FR_call (h : FR kd wt S sz b lo dd aa L en re lb rn av ow pl) (hb : b < 12) {e : Nat} (he : e < sz) (hS : S e ≤ S (e + 1)) : FR kd wt S sz (b + 1) lo (upn dd b e) (upn aa b 0) (upn L (b + 1) lo) (upd en b (nI (S (e + 1)))) (upd re b pl) (upd lb b (nI lo)) (upd rn b (nI e)) (upd av b 0) ow (nI (S e)) := by
  obtain ⟨h1, h2, h3, h4, h5, h6, h7⟩ := h
  refine ⟨by omega, h2, ?_, upn_s _ _ _, fun i hi => ?_, fun i hi => ?_, fun _ => ?_⟩
  · rw [upn_n _ _ (by omega)]; exact h3
  · by_cases e1 : i = b
    · subst e1
      rw [show upn dd i e i = e from upn_s _ _ _, show upn aa i 0 i = 0 from upn_s _ _ _, show upn L (i + 1) lo (i + 1) = lo from upn_s _ _ _, show upn L (i + 1) lo i = L i from upn_n _ _ (by omega), pk_us, pk_us, pk_us, pk_us]
      refine ⟨he, by omega, rfl, rfl, rfl, by rw [h4], by rw [h4]; rfl, fun j j1 j2 => by omega⟩
    · obtain ⟨g1, g2, g3, g4, g5, g6, g7, g8⟩ := h5 i (by omega)
      rw [show upn dd b e i = dd i from upn_n _ _ e1, show upn aa b 0 i = aa i from upn_n _ _ e1, show upn L (b + 1) lo (i + 1) = L (i + 1) from upn_n _ _ (by omega), show upn L (b + 1) lo i = L i from upn_n _ _ (by omega), pk_un e1, pk_un e1, pk_un e1, pk_un e1]
      exact ⟨g1, g2, g3, g4, g5, g6, g7, g8⟩
  · rw [show upn dd b e i = dd i from upn_n _ _ (by omega), show upn aa b 0 i = aa i from upn_n _ _ (by omega)]
    by_cases e1 : i + 1 = b
    · subst e1
      rw [pk_us, h7 (by omega), Nat.add_sub_cancel]
    · rw [pk_un e1]; exact h6 i (by omega)
  · rw [Nat.add_sub_cancel, upn_s, upn_s, Nat.add_zero]
theorem FR_leave (h : FR kd wt S sz (c + 1) lo dd aa L en re lb rn av ow pl) : FR kd wt S sz c (L c) dd aa L en re lb rn av ow (re c) := by
  have hle := FR_le h (show c ≤ c + 1 by omega) (Nat.le_refl _)
  obtain ⟨h1, h2, h3, h4, h5, h6, h7⟩ := h
  refine ⟨by omega, by omega, h3, rfl, fun i hi => h5 i (by omega), fun i hi => h6 i (by omega), fun hc => ?_⟩
  have := h6 (c - 1) (by omega)
  rw [show c - 1 + 1 = c by omega] at this
  exact this
theorem FR_own (h : FR kd wt S sz b lo dd aa L en re lb rn av ow pl) : ∀ (c j : Nat), c ≤ b → j < L c → ∃ i, i < c ∧ ow j = nI i := by
  intro c
  induction c with
  | zero => intro j _ hj; rw [h.2.2.1] at hj; omega
  | succ c ih =>
    intro j hc hj
    by_cases h1 : j < L c
    · obtain ⟨i, hi, e⟩ := ih j (by omega) h1
      exact ⟨i, by omega, e⟩
    · obtain ⟨-, -, -, -, -, -, -, h2⟩ := h.2.2.2.2.1 c (by omega)
      exact ⟨c, by omega, h2 j (by omega) hj⟩
theorem lv_loop (h : FR kd wt S sz (c + 1) lo dd aa L en re lb rn av ow pl) : ∀ (e f : Nat), L c + e ≤ lo → e < f → fnX12_leave_10 ow f (nI c) (nI (L c + e)) = some (nI c, nI (L c)) := by
  have hlo := h.2.1
  have h4 := h.2.2.2.1
  have hc := h.1
  intro e
  induction e with
  | zero =>
    intro f h1 h2
    obtain ⟨f, rfl⟩ : ∃ g, f = g + 1 := ⟨f - 1, by omega⟩
    rw [fnX12_leave_10, Nat.add_zero]
    by_cases h0 : L c = 0
    · rw [h0, if_pos (by decide)]
    · rw [if_neg (lR_f 0 0 (by omega)), show nI (L c) - 1 = nI (L c - 1) from pk_sub (a := L c) (b := 1) (by omega), ga_n (by omega) (by omega), bd1_s]
      obtain ⟨i, hi, ei⟩ := FR_own h c (L c - 1) (by omega) (by omega)
      rw [ei, if_neg (fun z => absurd ((nI_eq (by omega) (by omega)).mp z) (by omega))]
  | succ e ih =>
    intro f h1 h2
    obtain ⟨f, rfl⟩ : ∃ g, f = g + 1 := ⟨f - 1, by omega⟩
    obtain ⟨-, -, -, -, -, -, -, g8⟩ := h.2.2.2.2.1 c (by omega)
    rw [fnX12_leave_10, if_neg (lR_f 0 0 (by omega)), show nI (L c + (e + 1)) - 1 = nI (L c + e) from pk_sub (a := L c + (e + 1)) (b := 1) (by omega), ga_n (by omega) (by omega), bd1_s, g8 (L c + e) (by omega) (by omega), if_pos rfl]
    exact ih f (by omega) (by omega)
theorem pX12_leave (h : FR kd wt S sz (c + 1) lo dd aa L en re lb rn av ow pl) : fnX12_leave (nI (c + 1)) ow (nI lo) = some (nI c, nI (L c)) := by
  have hle := FR_le h (show c ≤ c + 1 by omega) (Nat.le_refl _)
  have h4 := h.2.2.2.1
  have hlo := h.2.1
  unfold fnX12_leave
  rw [show nI (c + 1) - 1 = nI c from pk_sub (a := c + 1) (b := 1) (by omega)]
  have := lv_loop h (lo - L c) fuel_ (by omega) (by unfold fuel_; omega)
  rw [show L c + (lo - L c) = lo by omega] at this
  exact this
theorem pX5_leave {pl2 : Int32} (h : FR kd wt S sz (c + 1) lo dd aa L en re lb rn av ow pl) : fnX5_leave (nI lo) re lb (nI (c + 1)) pl2 = some (nI (L c), nI c, re c) := by
  have hle := FR_le h (show c ≤ c + 1 by omega) (Nat.le_refl _)
  have h4 := h.2.2.2.1
  have hlo := h.2.1
  have hc := h.1
  obtain ⟨-, -, -, -, -, g6, -, -⟩ := h.2.2.2.2.1 c (by omega)
  unfold fnX5_leave
  rw [if_neg (lR_f 0 0 (by omega)), if_neg (sL_f 12 12 (by omega)), show nI (c + 1) - 1 = nI c from pk_sub (a := c + 1) (b := 1) (by omega), ga_n (by omega) (by omega), bd1_s, ga_n (by omega) (by omega), bd1_s, g6]
  unfold fnX4_closeDownTo
  rw [if_neg (nI_pos (by omega))]
  by_cases hh : lo ≤ L c
  · rw [if_pos ((nI_leI (by omega) (by omega)).mpr hh), bd1_s, show lo = L c by omega]
  · rw [if_neg (fun z => hh ((nI_leI (by omega) (by omega)).mp z)), bd1_s]
theorem pX5_enter {ds : Nat → Int32} {e : Nat} (hlo : lo ≤ 12) (hb : b < 12) (hsz : sz ≤ 20) (hds : ∀ k, k ≤ sz → ds k = nI (S k)) (he : e < sz) : fnX5_enter ds (nI lo) en re lb (nI b) pl (nI e) = some (upd en b (nI (S (e + 1))), upd re b pl, upd lb b (nI lo), nI (b + 1), nI (S e)) := by
  unfold fnX5_enter fnX1_endOf fnX1_startOf fnX4_openCount
  rw [if_neg (nI_pos (by omega)), if_neg (lL_f 12 12 (by omega)), if_neg (nI_pos (by omega)), show (21 : Int32) - 1 = 20 from rfl, if_neg (lL_f 20 20 (by omega)), nI_1, ga_n (by omega) (by omega), bd1_s, bd1_s, hds _ (by omega), sa_n hb (by omega), bd1_s, sa_n hb (by omega), bd1_s, bd1_s, sa_n hb (by omega), bd1_s, if_neg (nI_pos (by omega)), if_neg (lL_f 21 21 (by omega)), ga_n (by omega) (by omega), bd1_s, bd1_s, hds _ (by omega), nI_1]
theorem pX12_call8 {st flt d : Int32} (hst : st = 1000) {dp : Int32} : fnX12_call rn av dp st flt d = some (0, rn, av, dp, st, 8) := by
  unfold fnX12_call fnX12_stop
  rw [if_pos hst, bd2_s, gd_t (Or.inl rfl)]
theorem pX12_call7 {flt d : Int32} {st : Nat} (hst : st < 1000) : fnX12_call rn av (nI 12) (nI st) flt d = some (0, rn, av, nI 12, nI st, 7) := by
  unfold fnX12_call fnX12_stop
  rw [if_neg (ne_L 1000 1000 (by omega)), if_pos (by decide), bd2_s, gd_t (Or.inl rfl)]
theorem pX12_call0 {flt d : Int32} {st : Nat} (hst : st < 1000) (hb : b < 12) : fnX12_call rn av (nI b) (nI st) flt d = some (1, upd rn b d, upd av b 0, nI (b + 1), nI (st + 1), flt) := by
  unfold fnX12_call
  rw [if_neg (ne_L 1000 1000 (by omega)), if_neg (ne_L 12 12 (by omega)), sa_n hb (by omega), bd1_s, sa_n hb (by omega), bd1_s, nI_1, nI_1]
end
