/-! load -/
abbrev T28 : Type := Int32 × (Nat → Int32) × (Nat → Int32) × (Nat → Int64) × (Nat → Int32) × Int32 × Int32 × (Nat → Int32) × Int32 × Int32 × Int32 × (Nat → Int32) × (Nat → Int32) × Int32 × (Nat → Int32) × (Nat → Int32) × (Nat → Int32) × (Nat → Int32) × Int32 × Int32 × Int32 × (Nat → Int32) × Int32 × (Nat → Int32) × Int32 × Int32 × Int32 × Int32
abbrev M26 : Type := Int32 × (Nat → Int32) × (Nat → Int32) × Int32 × (Nat → Int32) × Int32 × (Nat → Int32) × (Nat → Int32) × Int32 × (Nat → Int64) × (Nat → Int32) × (Nat → Int32) × Int32 × (Nat → Int32) × (Nat → Int32) × (Nat → Int32) × (Nat → Int32) × Int32 × (Nat → Int32) × (Nat → Int32) × (Nat → Int32) × Int32 × (Nat → Int32) × Int32 × Int32 × Int32
def LSim (X : Option T28) (Y : Option M26) : Prop :=
  ∃ (Fx sz lo b n st : Nat) (S : Nat → Nat) (ops args ds ms mz kd wt wa op lc ll ce en re lb v la k mem ou rn av ml mc ow F G : Nat → Int32) (keys names : Nat → Int64) (ol o l pl co ws we wp fp nw fl : Int32),
    X = some (nI Fx, ops, args, keys, ds, nI sz, ol, wa, o, l, fp, lc, ll, nI lo, ce, en, re, lb, nI b, pl, nI st, v, nI n, la, co, ws, we, wp) ∧
    Y = some (nI Fx, F, G, nw, k, nI n, mem, ou, co, names, ms, mz, nI sz, kd, wt, rn, av, nI b, ml, mc, ow, nI lo, op, nI st, fl, fp) ∧
    DI keys names ds ops args ms mz kd wt S sz ∧ DR v k ce mem la ou co n ∧ lo ≤ 12
theorem DR_0 {v k ce mem la ou : Nat → Int32} {co : Int32} {n : Nat} (h : DR v k ce mem la ou co n) : DR v k ce mem la ou co 0 := ⟨by omega, Ag_le h.2.1 (by omega), h.2.2⟩
section
variable {tx F G : Nat → Int32} {K : Nat → Int64} {fr tt : Nat → Nat} {n nw : Nat}
theorem load_loop (hT : Tx tx n) (hWS : WS tx n nw fr tt) (hFG : ∀ k, k < nw → F k = nI (fr k) ∧ G k = nI (tt k)) (hnw : nw ≤ 150) (hK : ∀ j, j < 49 → K j = vkT j) : ∀ (e w f g cnt rd sz h st : Nat) (S : Nat → Nat) (ops args ds ms mz kd wt wa op lc ll ce en re lb v la k mem ou rn av ml mc ow : Nat → Int32) (keys names : Nat → Int64) (ol o l fp plm co ws pl pm : Int32), nw - w ≤ e → w ≤ nw → e + 1 < f → e + 1 < g → cnt ≤ w → rd ≤ w → pl + 1 = nI w → DI keys names ds ops args ms mz kd wt S sz → DR v k ce mem la ou co h → st ≤ 1000 →
    LSim (fnX3_loadText_18 tx (nI n) K f 0 (nI cnt) ops args keys ds (nI sz) ol wa o l fp lc ll (nI 0) ce en re lb (nI 0) plm (nI st) v (nI h) la co ws (nI (pe tt w)) pl) (fnX12_load_33 tx (nI n) g (nI w) (nI rd) F G (nI nw) k (nI h) mem ou co names ms mz (nI sz) kd wt rn av (nI 0) ml mc ow (nI 0) op (nI st) 0 pm) := by
  have done : ∀ (w f g cnt rd sz h st : Nat) (S : Nat → Nat) (ops args ds ms mz kd wt wa op lc ll ce en re lb v la k mem ou rn av ml mc ow : Nat → Int32) (keys names : Nat → Int64) (ol o l fp plm co ws pl pm : Int32), w = nw → 0 < f → 0 < g → cnt ≤ w → rd ≤ w → DI keys names ds ops args ms mz kd wt S sz → DR v k ce mem la ou co h → st ≤ 1000 →
    LSim (fnX3_loadText_18 tx (nI n) K f 0 (nI cnt) ops args keys ds (nI sz) ol wa o l fp lc ll (nI 0) ce en re lb (nI 0) plm (nI st) v (nI h) la co ws (nI (pe tt w)) pl) (fnX12_load_33 tx (nI n) g (nI w) (nI rd) F G (nI nw) k (nI h) mem ou co names ms mz (nI sz) kd wt rn av (nI 0) ml mc ow (nI 0) op (nI st) 0 pm) := by
    intro w f g cnt rd sz h st S ops args ds ms mz kd wt wa op lc ll ce en re lb v la k mem ou rn av ml mc ow keys names ol o l fp plm co ws pl pm hw hf hg hc hr hD hR hst
    subst hw
    obtain ⟨f, rfl⟩ : ∃ f', f = f' + 1 := ⟨f - 1, by omega⟩
    obtain ⟨g, rfl⟩ : ∃ g', g = g' + 1 := ⟨g - 1, by omega⟩
    have e1 : fnX12_load_33 tx (nI n) (g + 1) (nI w) (nI rd) F G (nI w) k (nI h) mem ou co names ms mz (nI sz) kd wt rn av (nI 0) ml mc ow (nI 0) op (nI st) 0 pm = some (0, F, G, nI w, k, nI h, mem, ou, co, names, ms, mz, nI sz, kd, wt, rn, av, nI 0, ml, mc, ow, nI 0, op, nI st, 0, -1) := by
      have e67 : fnX12_load_67 tx (nI n) F G (nI w) k (nI h) mem ou co names ms mz (nI sz) kd wt rn av (nI 0) ml mc ow (nI 0) op (nI st) 0 pm = some (0, F, G, nI w, k, nI h, mem, ou, co, names, ms, mz, nI sz, kd, wt, rn, av, nI 0, ml, mc, ow, nI 0, op, nI st, 0, -1) := by
        unfold fnX12_load_67 fnX12_load_87
        rw [if_pos (by decide)]
      rw [fnX12_load_33]
      by_cases h1 : (150 : Int32) ≤ nI rd
      · rw [if_pos h1, e67]
      · rw [if_neg h1, if_pos (Int32.le_refl _), e67]
    rw [e1, fnX3_loadText_18, if_neg (lL_f 300 300 (by omega)), if_pos rfl, adv_end hT hWS, bd4_s, if_pos rfl]
    unfold fnX3_loadText_50 fnX3_loadText_66
    rw [if_pos rfl, if_pos rfl]
    exact ⟨0, sz, 0, 0, h, st, S, ops, args, ds, ms, mz, kd, wt, wa, op, lc, ll, ce, en, re, lb, v, la, k, mem, ou, rn, av, ml, mc, ow, F, G, keys, names, _, _, _, _, _, _, _, _, _, _, _, rfl, rfl, hD, hR, by omega⟩
  intro e
  induction e with
  | zero =>
    intro w f g cnt rd sz h st S ops args ds ms mz kd wt wa op lc ll ce en re lb v la k mem ou rn av ml mc ow keys names ol o l fp plm co ws pl pm h1 h2 hf hg hc hr hpl hD hR hst
    exact done w f g cnt rd sz h st S ops args ds ms mz kd wt wa op lc ll ce en re lb v la k mem ou rn av ml mc ow keys names ol o l fp plm co ws pl pm (by omega) (by omega) (by omega) hc hr hD hR hst
  | succ e ih =>
    intro w f g cnt rd sz h st S ops args ds ms mz kd wt wa op lc ll ce en re lb v la k mem ou rn av ml mc ow keys names ol o l fp plm co ws pl pm h1 h2 hf hg hc hr hpl hD hR hst
    by_cases hw : w = nw
    · exact done w f g cnt rd sz h st S ops args ds ms mz kd wt wa op lc ll ce en re lb v la k mem ou rn av ml mc ow keys names ol o l fp plm co ws pl pm hw (by omega) (by omega) hc hr hD hR hst
    · have hwn : w < nw := by omega
      obtain ⟨f, rfl⟩ : ∃ f', f = f' + 1 := ⟨f - 1, by omega⟩
      obtain ⟨g, rfl⟩ : ∃ g', g = g' + 1 := ⟨g - 1, by omega⟩
      rw [fnX3_loadText_18, if_neg (lL_f 300 300 (by omega)), if_pos rfl, adv_ws hT hWS hwn, bd4_s, if_neg (by decide), hpl, fnX12_load_33, if_neg (lL_f 150 150 (by omega)), if_neg (fun z => absurd ((nI_leI (by omega) (by omega)).mp z) (by omega)), if_pos rfl]
      obtain ⟨Fx, sz', p, lo', b', n', st', S', ops', args', ds', ms', mz', kd', wt', wa', op', lc', ll', ce', en', re', lb', v', la', k', mem', ou', rn', av', ml', mc', ow', keys', names', ol', o', l', pl', co', ws', we', y, q1, q2, q3, q4, q5, q6, q7, q8⟩ := take_sim (ol := ol) (wa := wa) (o := o) (l := l) (lc := lc) (ll := ll) (en := en) (re := re) (lb := lb) (pl := plm) (rn := rn) (av := av) (ml := ml) (mc := mc) (ow := ow) (op := op) (pm := pm) hT hWS hFG hnw hK hD hR hst hwn
      rw [q2, q3, bd27_s, bd23_s, nI_1, nI_1]
      by_cases hF : Fx = 0
      · subst hF
        obtain ⟨r1, r2, r3, r4, r5, r6⟩ := q8 rfl
        subst r5 r6
        rw [r3, r4, show nI (tt p) = nI (pe tt (p + 1)) by rw [pe_s]]
        exact ih (p + 1) f g (cnt + 1) (rd + 1) sz' n' st' S' ops' args' ds' ms' mz' kd' wt' wa' op' lc' ll' ce' en' re' lb' v' la' k' mem' ou' rn' av' ml' mc' ow' keys' names' ol' o' l' fp pl' co' ws' (nI p) (nI p) (by omega) (by omega) (by omega) (by omega) (by omega) (by omega) (nI_1 p) q4 q5 q7
      · obtain ⟨f, rfl⟩ : ∃ f', f = f' + 1 := ⟨f - 1, by omega⟩
        obtain ⟨g, rfl⟩ : ∃ g', g = g' + 1 := ⟨g - 1, by omega⟩
        have e67 : fnX12_load_67 tx (nI n) F G (nI nw) k' (nI n') mem' ou' co' names' ms' mz' (nI sz') kd' wt' rn' av' (nI b') ml' mc' ow' (nI lo') op' (nI st') (nI Fx) (nI p) = some (nI Fx, F, G, nI nw, k', nI 0, mem', ou', co', names', ms', mz', nI sz', kd', wt', rn', av', nI b', ml', mc', ow', nI lo', op', nI st', nI Fx, nI p) := by
          unfold fnX12_load_67 fnX12_load_87
          rw [if_neg (lR_f 0 0 (by omega))]; rfl
        have e33 : fnX12_load_33 tx (nI n) (g + 1) y (nI (rd + 1)) F G (nI nw) k' (nI n') mem' ou' co' names' ms' mz' (nI sz') kd' wt' rn' av' (nI b') ml' mc' ow' (nI lo') op' (nI st') (nI Fx) (nI p) = some (nI Fx, F, G, nI nw, k', nI 0, mem', ou', co', names', ms', mz', nI sz', kd', wt', rn', av', nI b', ml', mc', ow', nI lo', op', nI st', nI Fx, nI p) := by
          rw [fnX12_load_33, e67]
          by_cases g1 : (150 : Int32) ≤ nI (rd + 1)
          · rw [if_pos g1]
          · rw [if_neg g1]
            by_cases g2 : nI nw ≤ y
            · rw [if_pos g2]
            · rw [if_neg g2, if_neg (ne_L 0 0 hF)]
        have e50 : fnX3_loadText_50 tx (nI n) K (nI Fx) ops' args' keys' ds' (nI sz') ol' wa' o' l' fp lc' ll' (nI lo') ce' en' re' lb' (nI b') pl' (nI st') v' (nI n') la' co' ws' we' (nI p) = some (nI Fx, ops', args', keys', ds', nI sz', ol', wa', o', l', nI p, lc', ll', nI lo', ce', en', re', lb', nI b', pl', nI st', v', nI 0, la', co', ws', we', nI p) := by
          unfold fnX3_loadText_50 fnX3_loadText_66 fnX9_wordPlace fnX5_emptyStack fnX7_empty
          rw [if_neg (ne_L 0 0 hF), bd1_s, if_neg (ne_L 0 0 hF), bd1_s, bd1_s]; rfl
        rw [e33, fnX3_loadText_18, e50]
        have e18 : (if (300 : Int32) ≤ nI (cnt + 1) then some (nI Fx, ops', args', keys', ds', nI sz', ol', wa', o', l', nI p, lc', ll', nI lo', ce', en', re', lb', nI b', pl', nI st', v', nI 0, la', co', ws', we', nI p) else some (nI Fx, ops', args', keys', ds', nI sz', ol', wa', o', l', nI p, lc', ll', nI lo', ce', en', re', lb', nI b', pl', nI st', v', nI 0, la', co', ws', we', nI p)) = some (nI Fx, ops', args', keys', ds', nI sz', ol', wa', o', l', nI p, lc', ll', nI lo', ce', en', re', lb', nI b', pl', nI st', v', nI 0, la', co', ws', we', nI p) := ite_self _
        rw [if_neg (show ¬ nI Fx = 0 from ne_L 0 0 hF), e18]
        exact ⟨Fx, sz', lo', b', 0, st', S', ops', args', ds', ms', mz', kd', wt', wa', op', lc', ll', ce', en', re', lb', v', la', k', mem', ou', rn', av', ml', mc', ow', F, G, keys', names', _, _, _, _, _, _, _, _, _, _, _, rfl, rfl, q4, DR_0 q5, q6⟩
end
theorem load_sim {tx : Nat → Int32} {K : Nat → Int64} {n : Nat} (hT : Tx tx n) (hK : ∀ j, j < 49 → K j = vkT j) {sz h lo : Nat} {S : Nat → Nat} {ops args ds ms mz kd wt wa op lc ll ce en re lb v la k mem ou rn av ml mc ow F G : Nat → Int32} {keys names : Nat → Int64} {ol o l fp plm co ws we pl pm b0 st0 nw0 dp0 lp0 ms0 fl0 : Int32} (hD : DI keys names ds ops args ms mz kd wt S sz) (hR : DR v k ce mem la ou co h) (hlo : lo ≤ 12) :
    LSim (fnX11_load ops args keys ds (nI sz) ol wa o l fp lc ll (nI lo) ce en re lb b0 plm st0 v (nI h) la co tx (nI n) ws we pl K) (fnX12_load tx (nI n) F G nw0 k (nI h) mem ou co names ms mz (nI sz) kd wt rn av dp0 ml mc ow lp0 op ms0 fl0 pm) := by
  obtain ⟨F', G', fr, tt, nw, s1, s2, s3, s4⟩ := pX12_split (tx := tx) hT.1 F G nw0
  have hm := load_loop (K := K) (F := F') (G := G') hT s2 s3 s4 hK nw 0 fuel_ fuel_ 0 0 sz h 0 S ops args ds ms mz kd wt wa op lc ll ce en re lb v la k mem ou rn av ml mc ow keys names ol o l fp plm co ws (-1) (-1) (by omega) (by omega) (by unfold fuel_; omega) (by unfold fuel_; omega) (by omega) (by omega) rfl hD hR (by omega)
  unfold fnX12_load
  rw [s1, bd3_s]
  unfold fnX11_load fnX3_loadText fnX5_begin fnX4_closeDownTo fnX9_rewind
  rw [if_neg (by decide)]
  have e0 : (if nI lo ≤ 0 then some (nI lo) else some (0 : Int32)) = some (nI 0) := by
    by_cases hz : lo = 0
    · subst hz; rw [if_pos (by decide)]
    · rw [if_neg (lR_f 0 0 (by omega))]; rfl
  rw [e0, bd1_s, bd3_s, bd2_s]
  obtain ⟨Fx, sz', lo', b', n', st', S', ops', args', ds', ms', mz', kd', wt', wa', op', lc', ll', ce', en', re', lb', v', la', k', mem', ou', rn', av', ml', mc', ow', F2, G2, keys', names', ol', o', l', pl', co', ws', we', wp', fp', nw', fl', q1, q2, q3, q4, q5⟩ := hm
  have q1' : fnX3_loadText_18 tx (nI n) K fuel_ 0 0 ops args keys ds (nI sz) ol wa o l fp lc ll (nI 0) ce en re lb 0 plm 0 v (nI h) la co ws 0 (-1) = _ := q1
  have q2' : fnX12_load_33 tx (nI n) fuel_ 0 0 F' G' (nI nw) k (nI h) mem ou co names ms mz (nI sz) kd wt rn av 0 ml mc ow 0 op 0 0 (-1) = _ := q2
  rw [q1', q2', bd28_s]
  exact ⟨Fx, sz', lo', b', n', st', S', ops', args', ds', ms', mz', kd', wt', wa', op', lc', ll', ce', en', re', lb', v', la', k', mem', ou', rn', av', ml', mc', ow', F2, G2, keys', names', _, _, _, _, _, _, _, _, _, _, _, rfl, rfl, q3, q4, q5⟩
