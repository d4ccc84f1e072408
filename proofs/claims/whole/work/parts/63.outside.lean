/-! class's takeWord and reference's outside -/
section
variable {tx F G : Nat → Int32} {keys names K : Nat → Int64} {ds ops args ms mz kd wt wa op : Nat → Int32} {S fr tt : Nat → Nat} {sz n nw w : Nat}
variable {lc ll ce en re lb v la k mem ou rn av ml mc ow : Nat → Int32} {co pl ol o l ws pm : Int32} {st h : Nat}
/-- obey when the word is done at once -/
theorem obey_F {b arg : Int32} {Fx : Nat} (hF : Fx ≠ 0) (h8 : Fx ≤ 8) {lo' bo' pl' st' n' co' : Int32} {lc' ll' ce' en' re' lb' v' la' : Nat → Int32} {lo0 bo0 pl0 st0 n0 co0 : Int32} (hd : fnX5_doWord ds lc ll lo0 ce en re lb bo0 pl0 st0 v n0 la co0 b arg = some (nI Fx, lc', ll', lo', ce', en', re', lb', bo', pl', st', v', n', la', co')) : fnX5_obey ops args ds lc ll lo0 ce en re lb bo0 pl0 st0 v n0 la co0 b arg = some (nI Fx, lc', ll', lo', ce', en', re', lb', bo', pl', st', v', n', la', co') := by
  unfold fnX5_obey
  rw [hd, bd15_s]
  exact C_fault (f := 999999) hF h8
theorem obey_0 {b arg : Int32} {lo' pl' st' n' co' : Int32} {lc' ll' ce' en' re' lb' v' la' : Nat → Int32} {lo0 bo0 pl0 st0 n0 co0 : Int32} (hd : fnX5_doWord ds lc ll lo0 ce en re lb bo0 pl0 st0 v n0 la co0 b arg = some (0, lc', ll', lo', ce', en', re', lb', nI 0, pl', st', v', n', la', co')) : fnX5_obey ops args ds lc ll lo0 ce en re lb bo0 pl0 st0 v n0 la co0 b arg = some (0, lc', ll', lo', ce', en', re', lb', nI 0, pl', st', v', n', la', co') := by
  unfold fnX5_obey
  rw [hd, bd15_s]
  exact C_done (f := 999999) (tn := 0) (by omega)
theorem take_46 {b arg : Int32} (ha : fnX3_argOfWord keys (nI sz) tx (nI n) (nI (fr w)) (nI (tt w)) b = some arg) {F0 lo' bo' pl' st' n' co' : Int32} {lc' ll' ce' en' re' lb' v' la' : Nat → Int32} {lo0 bo0 st0 n0 : Int32} (hd : fnX5_obey ops args ds lc ll lo0 ce en re lb bo0 pl st0 v n0 la co b arg = some (F0, lc', ll', lo', ce', en', re', lb', bo', pl', st', v', n', la', co')) {wp : Int32} : fnX3_takeWord_46 tx (nI n) K b ops args keys ds (nI sz) ol wa o l lc ll lo0 ce en re lb bo0 pl st0 v n0 la co (nI (fr w)) (nI (tt w)) wp = some (F0, ops, args, keys, ds, nI sz, ol, wa, o, l, lc', ll', lo', ce', en', re', lb', bo', pl', st', v', n', la', co', nI (fr w), nI (tt w), wp) := by
  unfold fnX3_takeWord_46
  rw [ha, bd1_s, hd, bd15_s]
theorem take_sim (hT : Tx tx n) (hWS : WS tx n nw fr tt) (hFG : ∀ k, k < nw → F k = nI (fr k) ∧ G k = nI (tt k)) (hnw : nw ≤ 150) (hK : ∀ j, j < 49 → K j = vkT j) (hD : DI keys names ds ops args ms mz kd wt S sz) (hR : DR v k ce mem la ou co h) (hst : st ≤ 1000) (hw : w < nw) :
    TSim tt nw w (fnX3_takeWord ops args keys ds (nI sz) ol wa o l lc ll (nI 0) ce en re lb (nI 0) pl (nI st) v (nI h) la co tx (nI n) (nI (fr w)) (nI (tt w)) (nI w) K) (fnX12_outside tx F G (nI nw) k (nI h) mem ou co names ms mz (nI sz) kd wt rn av (nI 0) ml mc ow (nI 0) op (nI st) 0 pm (nI w)) := by
  have hn := hT.1
  have hsz := hD.1
  have hh := hR.1
  obtain ⟨w1, w2, w3⟩ := WS_Wd hT hWS hw
  obtain ⟨eF, eG⟩ := hFG w hw
  obtain ⟨b, b1, b2, b3⟩ := opw hT w1 w2 w3 hK hD
  unfold fnX3_takeWord fnX12_outside
  rw [b2, bd1_s, pX12_spelled (by omega) w1 (by omega) eF eG, bd1_s]
  have hisn : fnX12_isNumber tx F G (nI w) = some (isn tx (fr w) (tt w)) := pX12_isNumber (by omega) w1 (by omega) eF eG
  rw [hisn, bd1_s]
  -- words that mean nothing here
  have wrong : TSim tt nw w (some ((1 : Int32), ops, args, keys, ds, nI sz, ol, wa, o, l, lc, ll, nI 0, ce, en, re, lb, nI 0, pl, nI st, v, nI h, la, co, nI (fr w), nI (tt w), nI w)) (some (nI w + 1, k, nI h, mem, ou, co, names, ms, mz, nI sz, kd, wt, rn, av, nI 0, ml, mc, ow, nI 0, op, nI st, 1, nI w)) :=
    ⟨1, sz, w, 0, 0, h, st, S, ops, args, ds, ms, mz, kd, wt, wa, op, lc, ll, ce, en, re, lb, v, la, k, mem, ou, rn, av, ml, mc, ow, keys, names, _, _, _, _, _, _, _, _, by omega, rfl, rfl, hD, hR, by omega, hst, fun z => absurd z (by omega)⟩
  rcases b3 with ⟨rfl, c1, c2, c3, c4, c5⟩ | ⟨c0, c1, c2, c3, c4, c5⟩ | ⟨rfl, c1, c2, c3, j, j1, j2, j3⟩ | ⟨rfl, c1, c2, c3⟩
  · -- a number
    rw [if_neg (by decide), if_neg (by decide), pPlain (by omega), bd1_s, if_neg (show ¬ (0 ≤ 49 ∧ 49 ≤ 32) by omega), if_pos rfl, if_pos (by decide), if_neg (fun z => c3 (lg0.mp z)), if_neg (fun z => c5 (lg0.mp z)), c1, if_neg (by decide), pX12_number (by omega) w1 (by omega) eF eG, bd1_s]
    have ha : fnX3_argOfWord keys (nI sz) tx (nI n) (nI (fr w)) (nI (tt w)) (nI 49) = some (nmv tx (fr w) (tt w)) := by
      unfold fnX3_argOfWord
      rw [if_neg (by decide), if_pos (by decide), pX9_numberValue hT w1 w2, bd1_s]
    unfold fnX12_outside_177
    rcases num_sim (ds := ds) (lc := lc) (ll := ll) (en := en) (re := re) (lb := lb) (pl := pl) (flt := 0) (b := 0) (lo := 0) (x := nmv tx (fr w) (tt w)) (by omega) (by omega) hR hst with ⟨Fx, f1, f2, e1, e2⟩ | ⟨f1, v', k', n', e1, e2, e3⟩
    · rw [take_46 ha (obey_F (by omega) f2 e1), e2, bd5_s]
      exact ⟨Fx, sz, w, 0, 0, h, st, S, ops, args, ds, ms, mz, kd, wt, wa, op, lc, ll, ce, en, re, lb, v, la, k, mem, ou, rn, av, ml, mc, ow, keys, names, _, _, _, _, _, _, _, _, by omega, rfl, rfl, hD, hR, by omega, hst, fun z => absurd z (by omega)⟩
    · rw [take_46 ha (obey_0 e1), e2, bd5_s, nI_1 w]
      exact ⟨0, sz, w, 0, 0, n', st + 1, S, ops, args, ds, ms, mz, kd, wt, wa, op, lc, ll, ce, en, re, lb, v', la, k', mem, ou, rn, av, ml, mc, ow, keys, names, _, _, _, _, _, _, _, _, by omega, rfl, rfl, hD, e3, by omega, by omega, fun _ => ⟨hw, Nat.le_refl w, rfl, rfl, rfl, rfl⟩⟩
  · have hne : ∀ q, q < 49 → b ≠ q → vkT b ≠ vkT q := by
      intro q hq hbq z
      rcases Nat.lt_or_ge b q with y | y
      · exact vk_inj q hq b y z
      · exact vk_inj b c0 q (by omega) z.symm
    by_cases h46 : b = 46
    · -- a definition
      subst h46
      rw [if_pos (by decide), if_pos (lg0.mpr (by rw [c2]; exact vk_m46))]
      obtain ⟨Fx, sz', p, S', ops', args', ds', ms', mz', kd', wt', wa', op', keys', names', ol', o', l', ws', we', y, q1, q2, q3, q4, q5⟩ := def_sim (wa := wa) (op := op) (ol := ol) (o := o) (l := l) (ws := nI (fr w)) (pm := nI w) hT hWS hFG hnw hK hD hw
      rw [q2, q3, bd13_s, bd10_s]
      refine ⟨Fx, sz', p, 0, 0, h, st, S', ops', args', ds', ms', mz', kd', wt', wa', op', lc, ll, ce, en, re, lb, v, la, k, mem, ou, rn, av, ml, mc, ow, keys', names', _, _, _, _, _, _, _, _, q1, rfl, rfl, q4, hR, by omega, hst, fun z => ⟨(q5 z).1, (q5 z).2.1, (q5 z).2.2.1, (q5 z).2.2.2, rfl, rfl⟩⟩
    · rw [if_neg (ne_L 46 46 h46), if_neg (show ¬ lg_cmp (sp tx (fr w) (tt w)) 58 = 0 from fun z => hne 46 (by omega) h46 (by rw [vk_m46, ← c2]; exact lg0.mp z))]
      by_cases h48 : b = 48
      · -- forget
        subst h48
        rw [if_pos (by decide), if_pos (show lg_cmp (sp tx (fr w) (tt w)) 3534730425076 = 0 from lg0.mpr (by rw [c2]; exact vk_m48)), nI_1]
        unfold fnX3_forget
        rw [show nI (tt w) = nI (pe tt (w + 1)) by rw [pe_s]]
        have bad : ∀ (y ws' we' : Int32), TSim tt nw w (some ((1 : Int32), ops, args, keys, ds, nI sz, ol, wa, o, l, lc, ll, nI 0, ce, en, re, lb, nI 0, pl, nI st, v, nI h, la, co, ws', we', nI (w + 1))) (some (y, k, nI h, mem, ou, co, names, ms, mz, nI sz, kd, wt, rn, av, nI 0, ml, mc, ow, nI 0, op, nI st, 1, nI (w + 1))) := fun y ws' we' =>
          ⟨1, sz, w + 1, 0, 0, h, st, S, ops, args, ds, ms, mz, kd, wt, wa, op, lc, ll, ce, en, re, lb, v, la, k, mem, ou, rn, av, ml, mc, ow, keys, names, _, _, _, _, _, _, _, _, by omega, rfl, rfl, hD, hR, by omega, hst, fun z => absurd z (by omega)⟩
        unfold fnX12_outside_68 fnX12_outside_89
        by_cases h1 : w + 1 < nw
        · obtain ⟨x1, x2, x3⟩ := WS_Wd hT hWS h1
          obtain ⟨xF, xG⟩ := hFG (w + 1) h1
          obtain ⟨d, d1, d2, d3⟩ := opw hT x1 x2 x3 hK hD
          rw [adv_ws hT hWS h1, bd4_s, if_neg (by decide), d2, bd1_s, nI_1, if_neg (fun z => absurd ((nI_leI (by omega) (by omega)).mp z) (by omega)), pX12_spelled (by omega) x1 (by omega) xF xG, bd1_s]
          have nof : d ≠ 50 → fnX12_meant names (nI sz) (sp tx (fr (w + 1)) (tt (w + 1))) = some (-1) := by
            intro hd
            rcases d3 with ⟨-, -, y, -⟩ | ⟨-, -, -, -, -, y⟩ | ⟨y, -⟩ | ⟨-, -, -, y⟩
            · exact y
            · exact y
            · exact absurd y hd
            · exact y
          by_cases hd : d = 50
          · subst hd
            rcases d3 with ⟨y, -⟩ | ⟨y, -⟩ | ⟨-, y1, y2, y3, j, j1, j2, j3⟩ | ⟨y, -⟩
            · omega
            · omega
            · rw [if_pos (by decide), pX9_wordKey hT x1 x2, bd1_s, j2, bd1_s, j3, bd1_s]
              unfold fnX1_forgetFrom
              rw [if_neg (nI_pos (by omega)), if_neg (fun z => absurd ((nI_leI (by omega) (by omega)).mp z) (by omega)), bd1_s, bd5_s, if_pos (lL_t 0 0 (by omega)), show nI w + 2 = nI (w + 1 + 1) from nI_add w 2]
              exact ⟨0, j, w + 1, 0, 0, h, st, S, ops, args, ds, ms, mz, kd, wt, wa, op, lc, ll, ce, en, re, lb, v, la, k, mem, ou, rn, av, ml, mc, ow, keys, names, _, _, _, _, _, _, _, _, by omega, rfl, rfl, DI_le hD (by omega), hR, by omega, hst, fun _ => ⟨h1, by omega, rfl, rfl, rfl, rfl⟩⟩
            · omega
          · rw [if_neg (ne_L 50 50 hd), nof hd, bd1_s, bd5_s, if_neg (by decide)]
            exact bad _ _ _
        · have : w + 1 = nw := by omega
          subst this
          rw [adv_end hT hWS, bd4_s, if_pos rfl, bd5_s, if_pos (Int32.le_refl _), if_neg (by decide), nI_1]
          exact bad _ _ _
      · rw [if_neg (ne_L 48 48 h48), if_neg (show ¬ lg_cmp (sp tx (fr w) (tt w)) 3534730425076 = 0 from fun z => hne 48 (by omega) h48 (by rw [vk_m48, ← c2]; exact lg0.mp z)), pPlain (by omega), bd1_s, c1, if_pos (show (0 : Int32) = 0 from rfl), c2]
        by_cases hp : b < 33
        · -- a plain word
          obtain ⟨p, p1, p2⟩ := vk_pi b hp
          have hpl := (vk_plain p p1).1
          rw [p2] at hpl
          rw [if_pos (show 0 ≤ b ∧ b ≤ 32 by omega), if_neg (show ¬ ((1 : Int32) = 0) by decide), hpl, bd1_s, if_neg (nI_pos (by omega)), bd1_s]
          have ha : fnX3_argOfWord keys (nI sz) tx (nI n) (nI (fr w)) (nI (tt w)) (nI b) = some 0 := by
            unfold fnX3_argOfWord
            rw [if_neg (ne_L 45 45 (by omega)), if_neg (ne_L 49 49 (by omega)), if_neg (ne_L 50 50 (by omega))]
          unfold fnX12_outside_177
          have hps := plain_sim (ds := ds) (lc := lc) (ll := ll) (en := en) (re := re) (lb := lb) (pl := pl) (x := 0) (flt := 0) (bo := 0) (lo := 0) (st := st) p1 hR (by omega) (by omega) hst
          rw [p2] at hps
          rcases hps with ⟨Fx, f1, f2, e1, e2⟩ | ⟨f1, v', k', ce', mem', la', ou', co', n', e1, e2, e3⟩
          · rw [take_46 ha (obey_F (by omega) f2 e1), e2, bd8_s]
            exact ⟨Fx, sz, w, 0, 0, h, st, S, ops, args, ds, ms, mz, kd, wt, wa, op, lc, ll, ce, en, re, lb, v, la, k, mem, ou, rn, av, ml, mc, ow, keys, names, _, _, _, _, _, _, _, _, by omega, rfl, rfl, hD, hR, by omega, hst, fun z => absurd z (by omega)⟩
          · rw [take_46 ha (obey_0 e1), e2, bd8_s, nI_1 w]
            exact ⟨0, sz, w, 0, 0, n', st + 1, S, ops, args, ds, ms, mz, kd, wt, wa, op, lc, ll, ce', en, re, lb, v', la', k', mem', ou', rn, av, ml, mc, ow, keys, names, _, _, _, _, _, _, _, _, by omega, rfl, rfl, hD, e3, by omega, by omega, fun _ => ⟨hw, Nat.le_refl w, rfl, rfl, rfl, rfl⟩⟩
        · -- words that stand in definitions only
          rw [if_neg (show ¬ (0 ≤ b ∧ b ≤ 32) by omega), if_pos (show (0 : Int32) = 0 from rfl), if_neg (ne_L 49 49 (by omega)), if_neg (ne_L 50 50 (by omega))]
          have hpl : fnX12_plain (vkT b) = some (-1) := by
            by_cases hc2 : b < 46
            · have := (vk_control (b - 33) (by omega)).1
              rw [show 33 + (b - 33) = b by omega] at this
              exact this
            · have := (vk_marks (b - 46) (by omega)).1
              rw [show 46 + (b - 46) = b by omega] at this
              exact this
          rw [c2] at c5
          rw [hpl, bd1_s, if_pos (by decide), c5, bd1_s, if_pos (by decide)]
          exact wrong
  · -- a name
    rw [if_neg (by decide), if_neg (by decide), pPlain (by omega), bd1_s, if_neg (show ¬ (0 ≤ 50 ∧ 50 ≤ 32) by omega), if_pos rfl, if_neg (by decide), if_pos (by decide), if_neg (fun z => c2 46 (by omega) (vk_m46.trans (lg0.mp z).symm)), if_neg (fun z => c2 48 (by omega) (vk_m48.trans (lg0.mp z).symm)), c1, if_pos rfl, vk_noplain c2, bd1_s, if_pos (by decide), j3, bd1_s, if_neg (nI_pos (by omega)), bd1_s]
    have ha : fnX3_argOfWord keys (nI sz) tx (nI n) (nI (fr w)) (nI (tt w)) (nI 50) = some (nI j) := by
      unfold fnX3_argOfWord
      rw [if_neg (by decide), if_neg (by decide), if_pos (by decide), pX9_wordKey hT w1 w2, bd1_s, j2, bd1_s]
    unfold fnX12_outside_166 fnX12_outside_167 fnX12_outside_177
    have hK2 := DI_DK hD
    have hF0 : FR kd wt S sz 0 0 (fun _ => 0) (fun _ => 0) (fun _ => 0) en re lb rn av ow pl := ⟨by omega, by omega, rfl, rfl, fun i hi => absurd hi (by omega), fun i hi => absurd hi (by omega), fun z => absurd z (by omega)⟩
    have hcf := cfl_call (o := 50) (st := st) (b := 0) (lo := 0) (top := tp v h 0) (Or.inl rfl) hh
    rw [if_pos (show 0 < 12 by omega)] at hcf
    by_cases h1 : st < 1000
    · rw [if_pos h1] at hcf
      have e1 := pX5_enter (ds := ds) (en := en) (re := re) (lb := lb) (pl := pl) (lo := 0) (b := 0) (by omega) (by omega) hsz (fun k hk => (hK2.2.1 k hk).1) j1
      have e2 := dw_G (ds := ds) (lc := lc) (ll := ll) (ce := ce) (la := la) (co := co) (x := nI j) (o := 50) (by omega) (by omega) (by omega) (by omega) (by omega) hh (by omega) (by omega) hst hcf (k_enter (lc := lc) (ll := ll) (v := v) (h := nI h) (Or.inr rfl) e1)
      have hF1 := FR_call hF0 (by omega) j1 (hK2.2.2 j j1).1
      have h60 := phi_60 hK2 hF1
      obtain ⟨Fx, lo', b', n', st', lc', ll', ce', en', re', lb', v', la', k', mem', ou', rn', av', ml', mc', ow', pl', co', q1, q2, q3, q4, q5, q6, q7⟩ := run_sim hK2 61062 (0 + 1) 0 h (st + 1) 0 0 fuel_ fuel_ _ _ _ lc ll ce _ _ _ v la k mem ou _ _ ml mc ow _ co hF1 hR (fun j hj => absurd hj (by omega)) (fun j hj => absurd hj (by omega)) (by omega) (by omega) (by unfold fuel_; omega) (by unfold fuel_; omega) (by omega) (by omega)
      have e3 : fnX5_obey ops args ds lc ll (nI 0) ce en re lb (nI 0) pl (nI st) v (nI h) la co (nI 50) (nI j) = some (nI Fx, lc', ll', nI lo', ce', en', re', lb', nI b', pl', nI st', v', nI n', la', co') := by
        unfold fnX5_obey
        rw [e2, bd15_s]
        exact q1
      rw [take_46 ha e3, pX12_call0 h1 (show 0 < 12 by omega), bd6_s, if_neg (show ¬ ((1 : Int32) = 0) by decide)]
      have e4 : fnX12_go k (nI h) mem ou co ms mz kd wt (upd rn 0 (nI j)) (upd av 0 0) (nI (0 + 1)) ml mc ow (nI 0) (nI (st + 1)) 0 = some (if Fx = 0 then 1 else 0, k', nI n', mem', ou', co', rn', av', nI b', ml', mc', ow', nI lo', nI st', nI Fx) := by
        unfold fnX12_go
        exact q2
      rw [e4, bd15_s, nI_1 w]
      by_cases hz : Fx = 0
      · subst hz
        rw [if_pos rfl, if_neg (show ¬ ((1 : Int32) = 0) by decide)]
        obtain ⟨z1, z2⟩ := q7 rfl
        subst z1 z2
        exact ⟨0, sz, w, 0, 0, n', st', S, ops, args, ds, ms, mz, kd, wt, wa, op, lc', ll', ce', en', re', lb', v', la', k', mem', ou', rn', av', ml', mc', ow', keys, names, _, _, _, _, _, _, _, _, by omega, rfl, rfl, hD, q6, by omega, q5, fun _ => ⟨hw, Nat.le_refl w, rfl, rfl, rfl, rfl⟩⟩
      · rw [if_neg hz, if_pos rfl]
        exact ⟨Fx, sz, w, lo', b', n', st', S, ops, args, ds, ms, mz, kd, wt, wa, op, lc', ll', ce', en', re', lb', v', la', k', mem', ou', rn', av', ml', mc', ow', keys, names, _, _, _, _, _, _, _, _, by omega, rfl, rfl, hD, q6, q4, q5, fun z => absurd z hz⟩
    · rw [if_neg h1] at hcf
      have : st = 1000 := by omega
      subst this
      have e1 := dw_F (ds := ds) (lc := lc) (ll := ll) (ce := ce) (en := en) (re := re) (lb := lb) (la := la) (co := co) (x := nI j) (o := 50) (pl := pl) (by omega) (by omega) (by omega) (by omega) hh (show 0 ≤ 12 by omega) (show 0 ≤ 12 by omega) hst hcf (by omega)
      rw [take_46 ha (obey_F (by omega) (by omega) e1), pX12_call8 (show nI 1000 = 1000 from rfl), bd6_s, if_pos rfl]
      exact ⟨8, sz, w, 0, 0, h, 1000, S, ops, args, ds, ms, mz, kd, wt, wa, op, lc, ll, ce, en, re, lb, v, la, k, mem, ou, rn, av, ml, mc, ow, keys, names, _, _, _, _, _, _, _, _, by omega, rfl, rfl, hD, hR, by omega, hst, fun z => absurd z (by omega)⟩
  · -- unknown
    rw [if_neg (by decide), if_neg (by decide), pPlain (by omega), bd1_s, if_neg (show ¬ (0 ≤ 52 ∧ 52 ≤ 32) by omega), if_pos rfl, if_neg (by decide), if_neg (by decide), if_neg (fun z => c2 46 (by omega) (vk_m46.trans (lg0.mp z).symm)), if_neg (fun z => c2 48 (by omega) (vk_m48.trans (lg0.mp z).symm)), c1, if_pos rfl, vk_noplain c2, bd1_s, if_pos (by decide), c3, bd1_s, if_pos (by decide)]
    exact wrong
end
