/-! one word of a running body -/
/-- what a control word leads to -/
def CK (ms mz kd wt args : Nat → Int32) (s n d q c : Nat) : Prop :=
  (c = 0 → ∃ t, t ≤ n ∧ args (s + q) = nI (s + t) ∧ fnX12_behind ms mz kd wt (nI d) (nI q) 1 = some (nI t) ∧ DLn kd wt s t = DLn kd wt s q) ∧
  (c = 1 → ∃ t, q < t ∧ t ≤ n ∧ args (s + q) = nI (s + t) ∧ fnX12_behind ms mz kd wt (nI d) (nI q) 0 = some (nI t) ∧ DLn kd wt s t = DLn kd wt s q) ∧
  (c = 4 ∨ c = 5 ∨ c = 7 ∨ c = 9 → ∃ t, t ≤ n ∧ args (s + q) = nI (s + t) ∧ fnX12_back ms mz kd wt (nI d) (nI q) = some (nI t) ∧ DLn kd wt s t = DLn kd wt s q) ∧
  (c = 6 → ∃ t, t ≤ n ∧ args (s + q) = nI (s + t) ∧ fnX12_behind ms mz kd wt (nI d) (nI q) 0 = some (nI t) ∧ DLn kd wt s t = DLn kd wt s q) ∧
  (c = 9 ∨ c = 10 → 1 ≤ DLn kd wt s q) ∧
  (c = 12 → args (s + q) = nI d)
/-- a word of a body, class and reference -/
def WK (ms mz kd wt ops args : Nat → Int32) (s n d sz q : Nat) : Prop :=
  (kd (s + q) = 0 ∧ ops (s + q) = nI 49 ∧ args (s + q) = wt (s + q)) ∨
  (kd (s + q) = 1 ∧ ∃ j, j < 33 ∧ wt (s + q) = nI j ∧ ops (s + q) = nI (piT j)) ∨
  (kd (s + q) = 3 ∧ ∃ e, e < sz ∧ wt (s + q) = nI e ∧ ops (s + q) = nI 50 ∧ args (s + q) = nI e) ∨
  (kd (s + q) = 2 ∧ ∃ c, c < 13 ∧ wt (s + q) = nI c ∧ ops (s + q) = nI (33 + c) ∧ CK ms mz kd wt args s n d q c)
/-- the definitions, as the running needs them -/
def DK (ds ops args ms mz kd wt : Nat → Int32) (S : Nat → Nat) (sz : Nat) : Prop :=
  sz ≤ 20 ∧ (∀ k, k ≤ sz → ds k = nI (S k) ∧ S k ≤ 200) ∧ (∀ k, k < sz → S k ≤ S (k + 1) ∧ ms k = nI (S k) ∧ mz k = nI (S (k + 1) - S k) ∧ nsc kd wt (S (k + 1) - S k) (S k) ≤ 60 ∧ ∀ q, S k + q < S (k + 1) → WK ms mz kd wt ops args (S k) (S (k + 1) - S k) k sz q)
/-- words without a step that may still come before the next step -/
def phi (kd wt : Nat → Int32) (S : Nat → Nat) (b : Nat) (dd aa : Nat → Nat) : Nat := if b = 0 then 0 else nsc kd wt (S (dd (b - 1) + 1) - (S (dd (b - 1)) + aa (b - 1))) (S (dd (b - 1)) + aa (b - 1))
abbrev T15 : Type := Int32 × (Nat → Int32) × (Nat → Int32) × Int32 × (Nat → Int32) × (Nat → Int32) × (Nat → Int32) × (Nat → Int32) × Int32 × Int32 × Int32 × (Nat → Int32) × Int32 × (Nat → Int32) × Int32
abbrev M15 : Type := Int32 × (Nat → Int32) × Int32 × (Nat → Int32) × (Nat → Int32) × Int32 × (Nat → Int32) × (Nat → Int32) × Int32 × (Nat → Int32) × (Nat → Int32) × (Nat → Int32) × Int32 × Int32 × Int32
/-- the reference's word -/
def mstep (ms mz kd wt k : Nat → Int32) (h : Int32) (mem ou : Nat → Int32) (outs : Int32) (rn av : Nat → Int32) (dp : Int32) (ml mc ow : Nat → Int32) (lp st flt : Int32) (kn w d p : Int32) : Option M15 :=
  if kn = 0 then bd5 (fnX12_numberStep k h st flt w) fun r k' h' st' f' => some (r, k', h', mem, ou, outs, rn, av, dp, ml, mc, ow, lp, st', f')
  else if kn = 1 then bd8 (fnX12_plainStep k h mem ou outs st flt w) fun r k' h' mem' ou' outs' st' f' => some (r, k', h', mem', ou', outs', rn, av, dp, ml, mc, ow, lp, st', f')
  else if kn = 2 then bd12 (fnX12_controlStep k h ms mz kd wt rn av dp ml mc ow lp st flt w d p) fun r k' h' rn' av' dp' ml' mc' ow' lp' st' f' => some (r, k', h', mem, ou, outs, rn', av', dp', ml', mc', ow', lp', st', f')
  else bd6 (fnX12_call rn av dp st flt w) fun r rn' av' dp' st' f' => some (r, k, h, mem, ou, outs, rn', av', dp', ml, mc, ow, lp, st', f')
/-- both did the word: the same fault, or both go on -/
def WSim (kd wt : Nat → Int32) (S : Nat → Nat) (sz : Nat) (CW : Option T15) (MW : Option M15) (st ph : Nat) (flt : Int32) : Prop :=
  (∃ (F lo b n : Nat) (lc ll ce en re lb v la k mem ou rn av ml mc ow : Nat → Int32) (pl co : Int32), 0 < F ∧ F ≤ 8 ∧ CW = some (nI F, lc, ll, nI lo, ce, en, re, lb, nI b, pl, nI st, v, nI n, la, co) ∧ MW = some (0, k, nI n, mem, ou, co, rn, av, nI b, ml, mc, ow, nI lo, nI st, nI F) ∧ lo ≤ 12 ∧ DR v k ce mem la ou co n) ∨
  (∃ (lo b n st' : Nat) (dd aa L : Nat → Nat) (lc ll ce en re lb v la k mem ou rn av ml mc ow : Nat → Int32) (pl co : Int32), CW = some (0, lc, ll, nI lo, ce, en, re, lb, nI b, pl, nI st', v, nI n, la, co) ∧ MW = some (1, k, nI n, mem, ou, co, rn, av, nI b, ml, mc, ow, nI lo, nI st', flt) ∧ FR kd wt S sz b lo dd aa L en re lb rn av ow pl ∧ DR v k ce mem la ou co n ∧ Ag lc mc lo ∧ Ag ll ml lo ∧ ((st < 1000 ∧ st' = st + 1) ∨ (st' = st ∧ phi kd wt S b dd aa < ph)))
section
variable {ds lc ll ce en re lb v la : Nat → Int32} {pl co x : Int32} {lo bo st n o F : Nat}
theorem dw_F (ho : o < 53) (h1 : o ≠ 34) (h2 : o ≠ 35) (h3 : o ≠ 36) (hn : n ≤ 32) (hlo : lo ≤ 12) (hb : bo ≤ 12) (hst : st ≤ 1000) (hc : cfl o st n bo lo (tp v n 0) = F) (hF : F ≠ 0) : fnX5_doWord ds lc ll (nI lo) ce en re lb (nI bo) pl (nI st) v (nI n) la co (nI o) x = some (nI F, lc, ll, nI lo, ce, en, re, lb, nI bo, pl, nI st, v, nI n, la, co) := by
  rw [pX5_doWord ho h1 h2 h3 hn hlo hb hst, hc, if_neg hF]
theorem dw_G {lc' ll' en' re' lb' v' : Nat → Int32} {lo' b' pl' n' : Int32} (ho : o < 53) (h33 : 33 ≤ o) (h1 : o ≠ 34) (h2 : o ≠ 35) (h3 : o ≠ 36) (hn : n ≤ 32) (hlo : lo ≤ 12) (hb : bo ≤ 12) (hst : st ≤ 1000) (hc : cfl o st n bo lo (tp v n 0) = 0) (hk : fnX5_control ds lc ll (nI lo) en re lb (nI bo) pl v (nI n) (nI o) x = some (lc', ll', lo', en', re', lb', b', pl', v', n')) : fnX5_doWord ds lc ll (nI lo) ce en re lb (nI bo) pl (nI st) v (nI n) la co (nI o) x = some (0, lc', ll', lo', ce, en', re', lb', b', pl', nI (st + 1), v', n', la, co) := by
  rw [pX5_doWord ho h1 h2 h3 hn hlo hb hst, hc, if_pos rfl, d29_control h33 ho, hk, bd10_s]
theorem dw_N {lc' ll' en' re' lb' v' : Nat → Int32} {lo' b' pl' n' : Int32} (ho : o = 34 ∨ o = 35 ∨ o = 36) (hk : fnX5_control ds lc ll (nI lo) en re lb (nI bo) pl v (nI n) (nI o) x = some (lc', ll', lo', en', re', lb', b', pl', v', n')) : fnX5_doWord ds lc ll (nI lo) ce en re lb (nI bo) pl (nI st) v (nI n) la co (nI o) x = some (0, lc', ll', lo', ce, en', re', lb', b', pl', nI st, v', n', la, co) := by
  unfold fnX5_doWord
  have e : fnX6_isStep (nI o) = some 0 := by
    unfold fnX6_isStep
    rcases ho with rfl | rfl | rfl
    · rw [if_pos (by decide)]
    · rw [if_neg (by decide), if_pos (by decide)]
    · rw [if_neg (by decide), if_neg (by decide), if_pos (by decide)]
  rw [e, bd1_s, if_pos rfl, d29_control (by omega) (by omega), hk, bd10_s]
end
theorem DLn_s {kd wt : Nat → Int32} {s q c : Nat} (hk : kd (s + q) = 2) (hw : wt (s + q) = nI c) (hc : c < 13) : DLn kd wt s (q + 1) = if c = 8 then DLn kd wt s q + 1 else if c = 9 then DLn kd wt s q - 1 else DLn kd wt s q := by
  show (if kd (s + q) = 2 ∧ wt (s + q) = nI 8 then DLn kd wt s q + 1 else if kd (s + q) = 2 ∧ wt (s + q) = nI 9 then DLn kd wt s q - 1 else DLn kd wt s q) = _
  rw [hk, hw]
  by_cases h8 : c = 8
  · rw [if_pos ⟨rfl, by rw [h8]⟩, if_pos h8]
  · rw [if_neg (fun z => h8 ((nI_eq (by omega) (by omega)).mp z.2)), if_neg h8]
    by_cases h9 : c = 9
    · rw [if_pos ⟨rfl, by rw [h9]⟩, if_pos h9]
    · rw [if_neg (fun z => h9 ((nI_eq (by omega) (by omega)).mp z.2)), if_neg h9]
theorem DLn_k {kd wt : Nat → Int32} {s q : Nat} (hk : kd (s + q) ≠ 2) : DLn kd wt s (q + 1) = DLn kd wt s q := by
  show (if kd (s + q) = 2 ∧ wt (s + q) = nI 8 then DLn kd wt s q + 1 else if kd (s + q) = 2 ∧ wt (s + q) = nI 9 then DLn kd wt s q - 1 else DLn kd wt s q) = _
  rw [if_neg (fun z => hk z.1), if_neg (fun z => hk z.1)]
theorem Ag_upn {v k : Nat → Int32} {n i : Nat} (h : Ag v k n) {x : Int32} : Ag (upd v i x) (upd k i x) n := by
  intro j hj
  by_cases e : j = i
  · subst e; rw [pk_us, pk_us]
  · rw [pk_un e, pk_un e]; exact h j hj
section
variable {ds ops args ms mz kd wt : Nat → Int32} {S : Nat → Nat} {sz : Nat}
variable {c lo : Nat} {dd aa L : Nat → Nat} {en re lb rn av ow : Nat → Int32} {pl : Int32}
/-- on to word a' of the top body, the loops as they are -/
theorem FR_next (h : FR kd wt S sz (c + 1) lo dd aa L en re lb rn av ow pl) {a' : Nat} {av' : Nat → Int32} (ha : S (dd c) + a' ≤ S (dd c + 1)) (hd : DLn kd wt (S (dd c)) a' = DLn kd wt (S (dd c)) (aa c)) (hat : av' c = nI a') (hat2 : ∀ i, i < c → av' i = av i) {pl' : Int32} (hpl : pl' = nI (S (dd c) + a')) : FR kd wt S sz (c + 1) lo dd (upn aa c a') (upn L (c + 1) lo) en re lb rn av' ow pl' := by
  obtain ⟨-, -, -, -, -, -, g7, g8⟩ := h.2.2.2.2.1 c (by omega)
  have h4 := h.2.2.2.1
  exact FR_move h ha (by rw [hd]; omega) h.2.1 hat hat2 (fun _ _ => rfl) (fun j j1 j2 => g8 j j1 (by omega)) hpl
theorem phi_top {b : Nat} {dd aa : Nat → Nat} {a' : Nat} : phi kd wt S (b + 1) dd (upn aa b a') = nsc kd wt (S (dd b + 1) - (S (dd b) + a')) (S (dd b) + a') := by
  unfold phi
  rw [if_neg (by omega), Nat.add_sub_cancel, upn_s]
theorem phi_top0 {b : Nat} {dd aa : Nat → Nat} : phi kd wt S (b + 1) dd aa = nsc kd wt (S (dd b + 1) - (S (dd b) + aa b)) (S (dd b) + aa b) := by
  unfold phi
  rw [if_neg (by omega), Nat.add_sub_cancel]
variable {lc ll ce v la k mem ou ml mc : Nat → Int32} {co flt : Int32} {st n : Nat}
/-- a call -/
theorem call_sim (hK : DK ds ops args ms mz kd wt S sz) {b e o : Nat} {x : Int32} (ho : o = 50 ∨ o = 45) (hx : x = nI e) (he : e < sz) (hF : FR kd wt S sz b lo dd aa L en re lb rn av ow pl) (hD : DR v k ce mem la ou co n) (hA : Ag lc mc lo) (hB : Ag ll ml lo) (hst : st ≤ 1000) {MW : Option M15} (hM : ∀ r rn' av' dp' st' f', (r = 0 ∨ r = 1) → fnX12_call rn av (nI b) (nI st) flt (nI e) = some (r, rn', av', dp', st', f') → MW = some (r, k, nI n, mem, ou, co, rn', av', dp', ml, mc, ow, nI lo, st', f')) {ph : Nat} : WSim kd wt S sz (fnX5_doWord ds lc ll (nI lo) ce en re lb (nI b) pl (nI st) v (nI n) la co (nI o) x) MW st ph flt := by
  subst hx
  have hb := hF.1
  have hlo := hF.2.1
  have hcf := cfl_call (st := st) (b := b) (lo := lo) (top := tp v n 0) ho hD.1
  by_cases h1 : st < 1000
  · rw [if_pos h1] at hcf
    by_cases h2 : b < 12
    · rw [if_pos h2] at hcf
      right
      have e1 := pX5_enter (ds := ds) (en := en) (re := re) (lb := lb) (pl := pl) hlo h2 hK.1 (fun k hk => (hK.2.1 k hk).1) he
      exact ⟨lo, b + 1, n, st + 1, _, _, _, lc, ll, ce, _, _, _, v, la, k, mem, ou, _, _, ml, mc, ow, _, co, dw_G (by omega) (by omega) (by omega) (by omega) (by omega) hD.1 hlo hb hst hcf (k_enter (by omega) e1), hM _ _ _ _ _ _ (Or.inr rfl) (pX12_call0 h1 h2), FR_call hF h2 he (hK.2.2 e he).1, hD, hA, hB, Or.inl ⟨h1, rfl⟩⟩
    · rw [if_neg h2] at hcf
      have : b = 12 := by omega
      subst this
      exact Or.inl ⟨7, lo, 12, n, lc, ll, ce, en, re, lb, v, la, k, mem, ou, rn, av, ml, mc, ow, pl, co, by omega, by omega, dw_F (by omega) (by omega) (by omega) (by omega) hD.1 hlo hb hst hcf (by omega), hM _ _ _ _ _ _ (Or.inl rfl) (pX12_call7 h1), hlo, hD⟩
  · rw [if_neg h1] at hcf
    have : st = 1000 := by omega
    subst this
    exact Or.inl ⟨8, lo, b, n, lc, ll, ce, en, re, lb, v, la, k, mem, ou, rn, av, ml, mc, ow, pl, co, by omega, by omega, dw_F (by omega) (by omega) (by omega) (by omega) hD.1 hlo hb hst hcf (by omega), hM _ _ _ _ _ _ (Or.inl rfl) (pX12_call8 rfl), hlo, hD⟩
/-- the word's number, class and reference, when its fault is the step's -/
theorem num_sim {b : Nat} {x : Int32} (hb : b ≤ 12) (hlo : lo ≤ 12) (hD : DR v k ce mem la ou co n) (hst : st ≤ 1000) :
    (∃ F : Nat, 0 < F ∧ F ≤ 8 ∧ fnX5_doWord ds lc ll (nI lo) ce en re lb (nI b) pl (nI st) v (nI n) la co (nI 49) x = some (nI F, lc, ll, nI lo, ce, en, re, lb, nI b, pl, nI st, v, nI n, la, co) ∧ fnX12_numberStep k (nI n) (nI st) flt x = some (0, k, nI n, nI st, nI F)) ∨
    (st < 1000 ∧ ∃ (v' k' : Nat → Int32) (n' : Nat), fnX5_doWord ds lc ll (nI lo) ce en re lb (nI b) pl (nI st) v (nI n) la co (nI 49) x = some (0, lc, ll, nI lo, ce, en, re, lb, nI b, pl, nI (st + 1), v', nI n', la, co) ∧ fnX12_numberStep k (nI n) (nI st) flt x = some (1, k', nI n', nI (st + 1), flt) ∧ DR v' k' ce mem la ou co n') := by
  obtain ⟨hn, hA, hC, hT⟩ := hD
  have hcf := cfl_gen (o := 49) (st := st) (n := n) (b := b) (lo := lo) (top := tp v n 0) (by decide) (by decide) (by decide) (by decide) (by decide)
  unfold fnX12_numberStep fnX12_stop
  by_cases h1 : st < 1000
  · rw [if_pos h1, if_pos (show tkN 49 ≤ n from Nat.zero_le n)] at hcf
    by_cases h2 : n = 32
    · rw [if_neg (show ¬ n - tkN 49 + gvN 49 ≤ 32 from by show ¬ n - 0 + 1 ≤ 32; omega)] at hcf
      left
      refine ⟨4, by omega, by omega, dw_F (by omega) (by omega) (by omega) (by omega) hn hlo hb hst hcf (by omega), ?_⟩
      rw [if_neg (ne_L 1000 1000 (by omega)), if_pos (by rw [h2]; rfl), bd2_s, gd_t (Or.inl rfl)]; rfl
    · rw [if_pos (show n - tkN 49 + gvN 49 ≤ 32 from by show n - 0 + 1 ≤ 32; omega)] at hcf
      right
      refine ⟨h1, upd v n x, upd k n x, n + 1, dw_G (by omega) (by omega) (by omega) (by omega) (by omega) hn hlo hb hst hcf (k_num (by omega)), ?_, by omega, Ag_up hA x, hC, hT⟩
      rw [if_neg (ne_L 1000 1000 (by omega)), if_neg (ne_L 32 32 h2), pX12_put (by omega), bd2_s, nI_1]
  · rw [if_neg h1] at hcf
    left
    refine ⟨8, by omega, by omega, dw_F (by omega) (by omega) (by omega) (by omega) hn hlo hb hst hcf (by omega), ?_⟩
    rw [if_pos (by rw [show st = 1000 by omega]; rfl), bd2_s, gd_t (Or.inl rfl)]; rfl
end
