/-! the law answers 1 -/
theorem lw_c1 {L i : Nat} (hL : L ≤ 1024) (hi : i ≤ 1030) (h : L ≤ i + 1) : nI L - 2 < nI i := by
  rcases Nat.lt_or_ge L 2 with y | y
  · have hb : nI L - 2 < 0 := by
      rcases (show L = 0 ∨ L = 1 by omega) with rfl | rfl <;> decide
    rw [Int32.lt_iff_toInt_lt] at hb ⊢
    have e0 : (0 : Int32).toInt = 0 := by decide
    rw [nI_toInt (by omega)]
    omega
  · rw [show nI L - 2 = nI (L - 2) from pk_sub (a := L) (b := 2) (by omega)]
    exact (nI_ltI (by omega) (by omega)).mpr (by omega)
theorem lw_c2 {L i : Nat} (hL : L ≤ 1024) (h : i + 2 ≤ L) : ¬ nI L - 2 < nI i := by
  rw [show nI L - 2 = nI (L - 2) from pk_sub (a := L) (b := 2) (by omega)]
  exact fun z => absurd ((nI_ltI (by omega) (by omega)).mp z) (by omega)
theorem law_pure {L : Nat} {xs : Nat → Int32} {K : Nat → Int64} (hL : L ≤ 1024) (hK : ∀ j, j < 49 → K j = vkT j) : ∀ (d i f : Nat) (n0 sz h lo : Nat) (S : Nat → Nat) (ops args ds wa lc ll ce en re lb v la tx F G k mem ou ms mz kd wt rn av ml mc ow op : Nat → Int32) (keys names : Nat → Int64) (ol o l fp b0 plm st co ws we wp nw dp lp fl : Int32), L ≤ i + d → d < f → i ≤ L + 2 → Tx tx n0 → DI keys names ds ops args ms mz kd wt S sz → DR v k ce mem la ou co h → lo ≤ 12 → fnL_law_18 L xs K f (nI i) ops args keys ds (nI sz) ol wa o l fp lc ll (nI lo) ce en re lb b0 plm st v (nI h) la co tx (nI n0) ws we wp tx (nI n0) F G nw k (nI h) mem ou co names ms mz (nI sz) kd wt rn av dp ml mc ow lp op st fl fp = some 1 := by
  intro d
  induction d with
  | zero =>
    intro i f n0 sz h lo S ops args ds wa lc ll ce en re lb v la tx F G k mem ou ms mz kd wt rn av ml mc ow op keys names ol o l fp b0 plm st co ws we wp nw dp lp fl h1 h2 h3 hT hD hR hlo
    obtain ⟨f, rfl⟩ : ∃ f', f = f' + 1 := ⟨f - 1, by omega⟩
    rw [fnL_law_18, if_pos (lw_c1 hL (by omega) (by omega))]
  | succ d ih =>
    intro i f n0 sz h lo S ops args ds wa lc ll ce en re lb v la tx F G k mem ou ms mz kd wt rn av ml mc ow op keys names ol o l fp b0 plm st co ws we wp nw dp lp fl h1 h2 h3 hT hD hR hlo
    obtain ⟨f, rfl⟩ : ∃ f', f = f' + 1 := ⟨f - 1, by omega⟩
    by_cases hi : i + 2 ≤ L
    · rw [fnL_law_18, if_neg (lw_c2 hL hi), ga_n (show i < L by omega) (by omega), bd1_s]
      by_cases e100 : (xs i &&& (15 : Int32)) = (0 : Int32)
      · rw [if_pos e100]
        obtain ⟨r, tx', n', e1, e2, e3⟩ := feed_sim hT (xs (i + 1))
        rw [nI_1, ga_n (show i + 1 < L by omega) (by omega), bd1_s, e1, bd3_s, bd1_s, e2, bd3_s, if_pos rfl]
        unfold fnL_law_358
        rw [show nI i + 2 = nI (i + 2) from nI_add i 2]
        exact ih (i + 2) f n' sz h lo S ops args ds wa lc ll ce en re lb v la tx' F G k mem ou ms mz kd wt rn av ml mc ow op keys names ol o l fp b0 plm st co ws we wp nw dp lp fl (by omega) (by omega) (by omega) e3 hD hR hlo
      rw [if_neg e100]
      by_cases e101 : (xs i &&& (15 : Int32)) = (1 : Int32)
      · rw [if_pos e101]
        unfold fnX11_clear fnX9_erase fnX12_clear
        rw [bd1_s, bd1_s, bd1_s]
        unfold fnL_law_358
        rw [show nI i + 2 = nI (i + 2) from nI_add i 2]
        exact ih (i + 2) f 0 sz h lo S ops args ds wa lc ll ce en re lb v la tx F G k mem ou ms mz kd wt rn av ml mc ow op keys names ol o l fp b0 plm st co ws we wp nw dp lp fl (by omega) (by omega) (by omega) ⟨by omega, fun j hj => absurd hj (by omega)⟩ hD hR hlo
      rw [if_neg e101]
      by_cases e102 : (xs i &&& (15 : Int32)) = (2 : Int32)
      · rw [if_pos e102]
        obtain ⟨Fx, sz', lo', b', n', st', S', ops', args', ds', ms', mz', kd', wt', wa', op', lc', ll', ce', en', re', lb', v', la', k', mem', ou', rn', av', ml', mc', ow', F', G', keys', names', ol', o', l', pl', co', ws', we', wp', fp', nw', fl', q1, q2, q3, q4, q5⟩ := load_sim (ol := ol) (wa := wa) (o := o) (l := l) (fp := fp) (lc := lc) (ll := ll) (en := en) (re := re) (lb := lb) (b0 := b0) (plm := plm) (st0 := st) (ws := ws) (we := we) (pl := wp) (F := F) (G := G) (nw0 := nw) (rn := rn) (av := av) (dp0 := dp) (ml := ml) (mc := mc) (ow := ow) (lp0 := lp) (op := op) (ms0 := st) (fl0 := fl) (pm := fp) hT hK hD hR hlo
        rw [q1, q2, bd28_s, bd26_s, if_pos rfl]
        unfold fnL_law_358
        rw [show nI i + 2 = nI (i + 2) from nI_add i 2]
        exact ih (i + 2) f n0 sz' n' lo' S' ops' args' ds' wa' lc' ll' ce' en' re' lb' v' la' tx F' G' k' mem' ou' ms' mz' kd' wt' rn' av' ml' mc' ow' op' keys' names' ol' o' l' fp' (nI b') pl' (nI st') co' ws' we' wp' nw' (nI b') (nI lo') fl' (by omega) (by omega) (by omega) hT q3 q4 q5
      rw [if_neg e102]
      by_cases e103 : (xs i &&& (15 : Int32)) = (3 : Int32)
      · rw [if_pos e103]
        unfold fnX11_faultAt fnX3_faultPlace fnX12_faultAt
        rw [bd1_s, bd1_s, bd1_s, if_pos rfl]
        unfold fnL_law_358
        rw [show nI i + 2 = nI (i + 2) from nI_add i 2]
        exact ih (i + 2) f n0 sz h lo S ops args ds wa lc ll ce en re lb v la tx F G k mem ou ms mz kd wt rn av ml mc ow op keys names ol o l fp b0 plm st co ws we wp nw dp lp fl (by omega) (by omega) (by omega) hT hD hR hlo
      rw [if_neg e103]
      by_cases e104 : (xs i &&& (15 : Int32)) = (4 : Int32)
      · rw [if_pos e104]
        unfold fnX11_steps fnX5_stepCount fnX12_steps
        rw [bd1_s, bd1_s, bd1_s, if_pos rfl]
        unfold fnL_law_358
        rw [show nI i + 2 = nI (i + 2) from nI_add i 2]
        exact ih (i + 2) f n0 sz h lo S ops args ds wa lc ll ce en re lb v la tx F G k mem ou ms mz kd wt rn av ml mc ow op keys names ol o l fp b0 plm st co ws we wp nw dp lp fl (by omega) (by omega) (by omega) hT hD hR hlo
      rw [if_neg e104]
      by_cases e105 : (xs i &&& (15 : Int32)) = (5 : Int32)
      · rw [if_pos e105]
        unfold fnX11_depth fnX7_size fnX12_depth
        rw [bd1_s, bd1_s, bd1_s, if_pos rfl]
        unfold fnL_law_358
        rw [show nI i + 2 = nI (i + 2) from nI_add i 2]
        exact ih (i + 2) f n0 sz h lo S ops args ds wa lc ll ce en re lb v la tx F G k mem ou ms mz kd wt rn av ml mc ow op keys names ol o l fp b0 plm st co ws we wp nw dp lp fl (by omega) (by omega) (by omega) hT hD hR hlo
      rw [if_neg e105]
      by_cases e106 : (xs i &&& (15 : Int32)) = (6 : Int32)
      · rw [if_pos e106]
        obtain ⟨r, e1, e2⟩ := value_sim hR (xs (i + 1))
        rw [nI_1, ga_n (show i + 1 < L by omega) (by omega), bd1_s, e1, bd1_s, bd1_s, e2, bd1_s, if_pos (lg0.mpr rfl)]
        unfold fnL_law_358
        rw [show nI i + 2 = nI (i + 2) from nI_add i 2]
        exact ih (i + 2) f n0 sz h lo S ops args ds wa lc ll ce en re lb v la tx F G k mem ou ms mz kd wt rn av ml mc ow op keys names ol o l fp b0 plm st co ws we wp nw dp lp fl (by omega) (by omega) (by omega) hT hD hR hlo
      rw [if_neg e106]
      by_cases e107 : (xs i &&& (15 : Int32)) = (7 : Int32)
      · rw [if_pos e107]
        obtain ⟨r, v', k', h', e1, e2, e3⟩ := push_sim hR (xs (i + 1))
        rw [nI_1, ga_n (show i + 1 < L by omega) (by omega), bd1_s, e1, bd3_s, bd1_s, e2, bd3_s, if_pos rfl]
        unfold fnL_law_358
        rw [show nI i + 2 = nI (i + 2) from nI_add i 2]
        exact ih (i + 2) f n0 sz h' lo S ops args ds wa lc ll ce en re lb v' la tx F G k' mem ou ms mz kd wt rn av ml mc ow op keys names ol o l fp b0 plm st co ws we wp nw dp lp fl (by omega) (by omega) (by omega) hT hD e3 hlo
      rw [if_neg e107]
      by_cases e108 : (xs i &&& (15 : Int32)) = (8 : Int32)
      · rw [if_pos e108]
        obtain ⟨r, e1, e2⟩ := cell_sim hR (xs (i + 1))
        rw [nI_1, ga_n (show i + 1 < L by omega) (by omega), bd1_s, e1, bd1_s, bd1_s, e2, bd1_s, if_pos (lg0.mpr rfl)]
        unfold fnL_law_358
        rw [show nI i + 2 = nI (i + 2) from nI_add i 2]
        exact ih (i + 2) f n0 sz h lo S ops args ds wa lc ll ce en re lb v la tx F G k mem ou ms mz kd wt rn av ml mc ow op keys names ol o l fp b0 plm st co ws we wp nw dp lp fl (by omega) (by omega) (by omega) hT hD hR hlo
      rw [if_neg e108]
      by_cases e109 : (xs i &&& (15 : Int32)) = (9 : Int32)
      · rw [if_pos e109]
        unfold fnX11_puts fnX8_count fnX12_puts
        rw [bd1_s, bd1_s, bd1_s, if_pos rfl]
        unfold fnL_law_358
        rw [show nI i + 2 = nI (i + 2) from nI_add i 2]
        exact ih (i + 2) f n0 sz h lo S ops args ds wa lc ll ce en re lb v la tx F G k mem ou ms mz kd wt rn av ml mc ow op keys names ol o l fp b0 plm st co ws we wp nw dp lp fl (by omega) (by omega) (by omega) hT hD hR hlo
      rw [if_neg e109]
      by_cases e110 : (xs i &&& (15 : Int32)) = (10 : Int32)
      · rw [if_pos e110]
        obtain ⟨r, e1, e2⟩ := output_sim hR (xs (i + 1))
        rw [nI_1, ga_n (show i + 1 < L by omega) (by omega), bd1_s, e1, bd1_s, bd1_s, e2, bd1_s, if_pos (lg0.mpr rfl)]
        unfold fnL_law_358
        rw [show nI i + 2 = nI (i + 2) from nI_add i 2]
        exact ih (i + 2) f n0 sz h lo S ops args ds wa lc ll ce en re lb v la tx F G k mem ou ms mz kd wt rn av ml mc ow op keys names ol o l fp b0 plm st co ws we wp nw dp lp fl (by omega) (by omega) (by omega) hT hD hR hlo
      rw [if_neg e110]
      by_cases e111 : (xs i &&& (15 : Int32)) = (11 : Int32)
      · rw [if_pos e111]
        unfold fnX11_definitions fnX1_size fnX12_definitions
        rw [bd1_s, bd1_s, bd1_s, if_pos rfl]
        unfold fnL_law_358
        rw [show nI i + 2 = nI (i + 2) from nI_add i 2]
        exact ih (i + 2) f n0 sz h lo S ops args ds wa lc ll ce en re lb v la tx F G k mem ou ms mz kd wt rn av ml mc ow op keys names ol o l fp b0 plm st co ws we wp nw dp lp fl (by omega) (by omega) (by omega) hT hD hR hlo
      rw [if_neg e111]
      by_cases e112 : (xs i &&& (15 : Int32)) = (12 : Int32)
      · rw [if_pos e112]
        obtain ⟨r, e1, e2⟩ := body_sim hD (xs (i + 1))
        rw [nI_1, ga_n (show i + 1 < L by omega) (by omega), bd1_s, e1, bd1_s, bd1_s, e2, bd1_s, if_pos rfl]
        unfold fnL_law_358
        rw [show nI i + 2 = nI (i + 2) from nI_add i 2]
        exact ih (i + 2) f n0 sz h lo S ops args ds wa lc ll ce en re lb v la tx F G k mem ou ms mz kd wt rn av ml mc ow op keys names ol o l fp b0 plm st co ws we wp nw dp lp fl (by omega) (by omega) (by omega) hT hD hR hlo
      rw [if_neg e112]
      by_cases e113 : (xs i &&& (15 : Int32)) = (13 : Int32)
      · rw [if_pos e113]
        obtain ⟨r, e1, e2⟩ := name_sim hD (xs (i + 1))
        rw [nI_1, ga_n (show i + 1 < L by omega) (by omega), bd1_s, e1, bd1_s, bd1_s, e2, bd1_s, if_pos (lg0.mpr rfl)]
        unfold fnL_law_358
        rw [show nI i + 2 = nI (i + 2) from nI_add i 2]
        exact ih (i + 2) f n0 sz h lo S ops args ds wa lc ll ce en re lb v la tx F G k mem ou ms mz kd wt rn av ml mc ow op keys names ol o l fp b0 plm st co ws we wp nw dp lp fl (by omega) (by omega) (by omega) hT hD hR hlo
      rw [if_neg e113]
      unfold fnL_law_358
      rw [show nI i + 2 = nI (i + 2) from nI_add i 2]
      exact ih (i + 2) f n0 sz h lo S ops args ds wa lc ll ce en re lb v la tx F G k mem ou ms mz kd wt rn av ml mc ow op keys names ol o l fp b0 plm st co ws we wp nw dp lp fl (by omega) (by omega) (by omega) hT hD hR hlo
    · rw [fnL_law_18, if_pos (lw_c1 hL (by omega) (by omega))]
