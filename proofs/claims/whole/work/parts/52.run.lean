/-! every word of a running body, then the running -/
section
variable {ds ops args ms mz kd wt : Nat → Int32} {S : Nat → Nat} {sz : Nat}
variable {c lo : Nat} {dd aa L : Nat → Nat} {en re lb rn av ow : Nat → Int32} {pl : Int32}
variable {lc ll ce v la k mem ou ml mc : Nat → Int32} {co flt : Int32} {st n : Nat}
/-- if, until, while -/
theorem ctl_takes (hF : FR kd wt S sz (c + 1) lo dd aa L en re lb rn av ow pl) (hD : DR v k ce mem la ou co n) (hA : Ag lc mc lo) (hB : Ag ll ml lo) (hst : st ≤ 1000) (hq : S (dd c) + aa c < S (dd c + 1)) {w : Nat} (hw : w = 0 ∨ w = 4 ∨ w = 6) {t : Nat} (ht : S (dd c) + t ≤ S (dd c + 1)) (hd : DLn kd wt (S (dd c)) t = DLn kd wt (S (dd c)) (aa c)) (hd1 : DLn kd wt (S (dd c)) (aa c + 1) = DLn kd wt (S (dd c)) (aa c)) {d p : Int32}
    (h0 : ∀ (h st' : Int32) (av' : Nat → Int32), fnX12_controlStep_215 ms mz kd wt (nI w) d p (nI c) 0 k h rn av' (nI (c + 1)) ml mc ow (nI lo) st' flt = some (1, k, h, rn, av', nI (c + 1), ml, mc, ow, nI lo, st', flt))
    (h1 : ∀ (h st' : Int32) (av' : Nat → Int32), fnX12_controlStep_215 ms mz kd wt (nI w) d p (nI c) 1 k h rn av' (nI (c + 1)) ml mc ow (nI lo) st' flt = some (1, k, h, rn, upd av' c (nI t), nI (c + 1), ml, mc, ow, nI lo, st', flt))
    {MW : Option M15} (hM : ∀ r k' h' rn' av' dp' ml' mc' ow' lp' st' f', fnX12_controlStep k (nI n) ms mz kd wt rn (upd av c (nI (aa c + 1))) (nI (c + 1)) ml mc ow (nI lo) (nI st) flt (nI w) d p = some (r, k', h', rn', av', dp', ml', mc', ow', lp', st', f') → MW = some (r, k', h', mem, ou, co, rn', av', dp', ml', mc', ow', lp', st', f')) {ph : Nat} :
    WSim kd wt S sz (fnX5_doWord ds lc ll (nI lo) ce en re lb (nI (c + 1)) (nI (S (dd c) + aa c + 1)) (nI st) v (nI n) la co (nI (33 + w)) (nI (S (dd c) + t))) MW st ph flt := by
  have hb := hF.1
  have hlo := hF.2.1
  have hn := hD.1
  have htk : tkN (33 + w) = 1 ∧ gvN (33 + w) = 0 := by rcases hw with rfl | rfl | rfl <;> exact ⟨rfl, rfl⟩
  have hcf := cfl_gen (o := 33 + w) (st := st) (n := n) (b := c + 1) (lo := lo) (top := tp v n 0) (by omega) (by omega) (by omega) (by omega) (by omega)
  rw [htk.1, htk.2] at hcf
  by_cases g1 : st < 1000
  · rw [if_pos g1] at hcf
    by_cases g2 : 1 ≤ n
    · rw [if_pos g2, if_pos (by omega)] at hcf
      obtain ⟨m, rfl⟩ : ∃ m, n = m + 1 := ⟨n - 1, by omega⟩
      have e1 := mc_takes (ms := ms) (mz := mz) (kd := kd) (wt := wt) (k := k) (rn := rn) (av := upd av c (nI (aa c + 1))) (dp := nI (c + 1)) (ml := ml) (mc := mc) (ow := ow) (lp := nI lo) (flt := flt) (d := d) (p := p) (i := c) hw g1 (show m < 33 by omega) rfl
      have e2 := k_takes (ds := ds) (lc := lc) (ll := ll) (en := en) (re := re) (lb := lb) (v := v) (lo := nI lo) (b := nI (c + 1)) (pl := nI (S (dd c) + aa c + 1)) (x := nI (S (dd c) + t)) (o := 33 + w) (n := m) (by omega) (by omega)
      have ev : v m = k m := hD.2.1 m (by omega)
      have hDm : DR v k ce mem la ou co m := ⟨by omega, Ag_le hD.2.1 (by omega), hD.2.2⟩
      right
      by_cases hz : k m = 0
      · rw [if_pos hz, h1] at e1
        rw [if_pos (ev.trans hz)] at e2
        exact ⟨lo, c + 1, m, st + 1, dd, _, _, lc, ll, ce, en, re, lb, v, la, k, mem, ou, rn, _, ml, mc, ow, _, co, dw_G (by omega) (by omega) (by omega) (by omega) (by omega) hn hlo hb hst hcf e2, hM _ _ _ _ _ _ _ _ _ _ _ _ e1, FR_next hF ht hd pk_us (fun i hi => by rw [pk_un (by omega), pk_un (by omega)]) rfl, hDm, hA, hB, Or.inl ⟨g1, rfl⟩⟩
      · rw [if_neg hz, h0] at e1
        rw [if_neg (fun y => hz (ev.symm.trans y))] at e2
        exact ⟨lo, c + 1, m, st + 1, dd, _, _, lc, ll, ce, en, re, lb, v, la, k, mem, ou, rn, _, ml, mc, ow, _, co, dw_G (by omega) (by omega) (by omega) (by omega) (by omega) hn hlo hb hst hcf e2, hM _ _ _ _ _ _ _ _ _ _ _ _ e1, FR_next hF (a' := aa c + 1) (by omega) hd1 pk_us (fun i hi => pk_un (by omega)) rfl, hDm, hA, hB, Or.inl ⟨g1, rfl⟩⟩
    · rw [if_neg g2] at hcf
      have : n = 0 := by omega
      subst this
      exact Or.inl ⟨3, lo, c + 1, 0, lc, ll, ce, en, re, lb, v, la, k, mem, ou, rn, _, ml, mc, ow, _, co, by omega, by omega, dw_F (by omega) (by omega) (by omega) (by omega) hn hlo hb hst hcf (by omega), hM _ _ _ _ _ _ _ _ _ _ _ _ (mc_takes0 hw g1), hlo, hD⟩
  · rw [if_neg g1] at hcf
    have : st = 1000 := by omega
    subst this
    exact Or.inl ⟨8, lo, c + 1, n, lc, ll, ce, en, re, lb, v, la, k, mem, ou, rn, _, ml, mc, ow, _, co, by omega, by omega, dw_F (by omega) (by omega) (by omega) (by omega) hn hlo hb hst hcf (by omega), hM _ _ _ _ _ _ _ _ _ _ _ _ (mc_8 (by omega)), hlo, hD⟩
theorem word_sim (hK : DK ds ops args ms mz kd wt S sz) (hF : FR kd wt S sz (c + 1) lo dd aa L en re lb rn av ow pl) (hD : DR v k ce mem la ou co n) (hA : Ag lc mc lo) (hB : Ag ll ml lo) (hst : st ≤ 1000) (hq : S (dd c) + aa c < S (dd c + 1)) :
    WSim kd wt S sz (fnX5_doWord ds lc ll (nI lo) ce en re lb (nI (c + 1)) (nI (S (dd c) + aa c + 1)) (nI st) v (nI n) la co (ops (S (dd c) + aa c)) (args (S (dd c) + aa c))) (mstep ms mz kd wt k (nI n) mem ou co rn (upd av c (nI (aa c + 1))) (nI (c + 1)) ml mc ow (nI lo) (nI st) flt (kd (S (dd c) + aa c)) (wt (S (dd c) + aa c)) (nI (dd c)) (nI (aa c))) st (phi kd wt S (c + 1) dd aa) flt := by
  have hb := hF.1
  have hlo := hF.2.1
  have hn := hD.1
  obtain ⟨g1, g2, g3, g4, g5, g6, g7, g8⟩ := hF.2.2.2.2.1 c (by omega)
  have h4 := hF.2.2.2.1
  have hW := (hK.2.2 (dd c) g1).2.2.2.2 (aa c) hq
  have hAt2 : ∀ i, i < c → upd av c (nI (aa c + 1)) i = av i := fun i hi => pk_un (by omega)
  have hAt3 : ∀ t, ∀ i, i < c → upd (upd av c (nI (aa c + 1))) c (nI t) i = av i := fun t i hi => by rw [pk_un (by omega), pk_un (by omega)]
  rcases hW with ⟨hk, ho, ha⟩ | ⟨hk, j, hj, hw, ho⟩ | ⟨hk, e, he, hw, ho, ha⟩ | ⟨hk, w, hw13, hw, ho, hC⟩
  · rw [ho, ha, hk]
    unfold mstep
    rw [if_pos rfl]
    rcases num_sim (ds := ds) (lc := lc) (ll := ll) (en := en) (re := re) (lb := lb) (pl := nI (S (dd c) + aa c + 1)) (flt := flt) (b := c + 1) (x := wt (S (dd c) + aa c)) hb hlo hD hst with ⟨F, f1, f2, e1, e2⟩ | ⟨f1, v', k', n', e1, e2, e3⟩
    · exact Or.inl ⟨F, lo, c + 1, n, lc, ll, ce, en, re, lb, v, la, k, mem, ou, rn, _, ml, mc, ow, _, co, f1, f2, e1, by rw [e2, bd5_s], hlo, hD⟩
    · exact Or.inr ⟨lo, c + 1, n', st + 1, dd, _, _, lc, ll, ce, en, re, lb, v', la, k', mem, ou, rn, _, ml, mc, ow, _, co, e1, by rw [e2, bd5_s], FR_next hF (a' := aa c + 1) (by omega) (DLn_k (by rw [hk]; decide)) pk_us hAt2 rfl, e3, hA, hB, Or.inl ⟨f1, rfl⟩⟩
  · rw [ho, hk, hw]
    unfold mstep
    rw [if_neg (by decide), if_pos rfl]
    rcases plain_sim (ds := ds) (lc := lc) (ll := ll) (en := en) (re := re) (lb := lb) (pl := nI (S (dd c) + aa c + 1)) (x := args (S (dd c) + aa c)) (flt := flt) (bo := c + 1) (st := st) hj hD hlo hb hst with ⟨F, f1, f2, e1, e2⟩ | ⟨f1, v', k', ce', mem', la', ou', co', n', e1, e2, e3⟩
    · exact Or.inl ⟨F, lo, c + 1, n, lc, ll, ce, en, re, lb, v, la, k, mem, ou, rn, _, ml, mc, ow, _, co, f1, f2, e1, by rw [e2, bd8_s], hlo, hD⟩
    · exact Or.inr ⟨lo, c + 1, n', st + 1, dd, _, _, lc, ll, ce', en, re, lb, v', la', k', mem', ou', rn, _, ml, mc, ow, _, co', e1, by rw [e2, bd8_s], FR_next hF (a' := aa c + 1) (by omega) (DLn_k (by rw [hk]; decide)) pk_us hAt2 rfl, e3, hA, hB, Or.inl ⟨f1, rfl⟩⟩
  · rw [ho, hk, hw]
    have hF1 := FR_next hF (a' := aa c + 1) (pl' := nI (S (dd c) + aa c + 1)) (by omega) (DLn_k (by rw [hk]; decide)) pk_us hAt2 rfl
    refine call_sim hK (Or.inl rfl) ha he hF1 hD hA hB hst ?_
    intro r rn' av' dp' st' f' hr hc
    unfold mstep
    rw [if_neg (by decide), if_neg (by decide), if_neg (by decide), hc, bd6_s]
  · obtain ⟨c0, c1, c4, c6, c9, c12⟩ := hC
    have hdl := DLn_s hk hw hw13
    rw [ho]
    have hM : ∀ r k' h' rn' av' dp' ml' mc' ow' lp' st' f', fnX12_controlStep k (nI n) ms mz kd wt rn (upd av c (nI (aa c + 1))) (nI (c + 1)) ml mc ow (nI lo) (nI st) flt (nI w) (nI (dd c)) (nI (aa c)) = some (r, k', h', rn', av', dp', ml', mc', ow', lp', st', f') → mstep ms mz kd wt k (nI n) mem ou co rn (upd av c (nI (aa c + 1))) (nI (c + 1)) ml mc ow (nI lo) (nI st) flt (kd (S (dd c) + aa c)) (wt (S (dd c) + aa c)) (nI (dd c)) (nI (aa c)) = some (r, k', h', mem, ou, co, rn', av', dp', ml', mc', ow', lp', st', f') := by
      intro r k' h' rn' av' dp' ml' mc' ow' lp' st' f' hc
      unfold mstep
      rw [hk, hw, if_neg (by decide), if_neg (by decide), if_pos rfl, hc, bd12_s]
    have hcf : ∀ o, o = 33 + w → ¬ (o = 50 ∨ o = 45) → ¬ o = 41 → cfl o st n (c + 1) lo (tp v n 0) = if st < 1000 then (if tkN o ≤ n then (if n - tkN o + gvN o ≤ 32 then 0 else 4) else 3) else 8 := fun o h h2 h3 => cfl_gen (by omega) (by omega) h2 h3 (by omega)
    -- too long
    have h8 : ¬ st < 1000 → (w = 5 ∨ w = 7 ∨ w = 8 ∨ w = 9 ∨ w = 10 ∨ w = 11) → ∀ x, WSim kd wt S sz (fnX5_doWord ds lc ll (nI lo) ce en re lb (nI (c + 1)) (nI (S (dd c) + aa c + 1)) (nI st) v (nI n) la co (nI (33 + w)) x) (mstep ms mz kd wt k (nI n) mem ou co rn (upd av c (nI (aa c + 1))) (nI (c + 1)) ml mc ow (nI lo) (nI st) flt (kd (S (dd c) + aa c)) (wt (S (dd c) + aa c)) (nI (dd c)) (nI (aa c))) st (phi kd wt S (c + 1) dd aa) flt := by
      intro h1 h2 x
      have : st = 1000 := by omega
      subst this
      have e8 : cfl (33 + w) 1000 n (c + 1) lo (tp v n 0) = 8 := by unfold cfl; rw [if_neg (by omega)]
      exact Or.inl ⟨8, lo, c + 1, n, lc, ll, ce, en, re, lb, v, la, k, mem, ou, rn, _, ml, mc, ow, _, co, by omega, by omega, dw_F (by omega) (by omega) (by omega) (by omega) hn hlo hb hst e8 (by omega), hM _ _ _ _ _ _ _ _ _ _ _ _ (mc_8 (by omega)), hlo, hD⟩
    rcases (show w = 0 ∨ w = 1 ∨ w = 2 ∨ w = 3 ∨ w = 4 ∨ w = 5 ∨ w = 6 ∨ w = 7 ∨ w = 8 ∨ w = 9 ∨ w = 10 ∨ w = 11 ∨ w = 12 by omega) with rfl | rfl | rfl | rfl | rfl | rfl | rfl | rfl | rfl | rfl | rfl | rfl | rfl
    · -- if
      obtain ⟨t, t1, t2, t3, t4⟩ := c0 rfl
      rw [t2]
      exact ctl_takes hF hD hA hB hst hq (Or.inl rfl) (by omega) t4 hdl (fun _ _ _ => t215_if0) (fun _ _ _ => t215_if1 (by omega) t3) hM
    · -- else
      obtain ⟨t, t0, t1, t2, t3, t4⟩ := c1 rfl
      rw [t2]
      refine Or.inr ⟨lo, c + 1, n, st, dd, _, _, lc, ll, ce, en, re, lb, v, la, k, mem, ou, rn, _, ml, mc, ow, _, co, dw_N (by omega) (k_jump (by omega)), hM _ _ _ _ _ _ _ _ _ _ _ _ (mc_else (by omega) t3), FR_next hF (a' := t) (by omega) t4 pk_us (hAt3 t) rfl, hD, hA, hB, Or.inr ⟨rfl, ?_⟩⟩
      rw [phi_top, phi_top0, nsc_s (show S (dd c) + aa c < S (dd c + 1) from hq)]
      have e1 : nst kd wt (S (dd c) + aa c) = 1 := if_pos ⟨hk, Or.inl hw⟩
      have e2 := nsc_mono (kd := kd) (wt := wt) (t - (aa c + 1)) (S (dd c) + aa c + 1) (S (dd c + 1)) (by omega)
      rw [show S (dd c) + aa c + 1 + (t - (aa c + 1)) = S (dd c) + t by omega] at e2
      omega
    · -- then
      refine Or.inr ⟨lo, c + 1, n, st, dd, _, _, lc, ll, ce, en, re, lb, v, la, k, mem, ou, rn, _, ml, mc, ow, _, co, dw_N (by omega) (k_skip (by omega)), hM _ _ _ _ _ _ _ _ _ _ _ _ (mc_skip (by omega)), FR_next hF (a' := aa c + 1) (by omega) hdl pk_us hAt2 rfl, hD, hA, hB, Or.inr ⟨rfl, ?_⟩⟩
      have e1 : nst kd wt (S (dd c) + aa c) = 1 := if_pos ⟨hk, Or.inr (Or.inl hw)⟩
      rw [phi_top, phi_top0, nsc_s (show S (dd c) + aa c < S (dd c + 1) from hq), e1, show S (dd c) + (aa c + 1) = S (dd c) + aa c + 1 by omega]
      omega
    · -- begin
      refine Or.inr ⟨lo, c + 1, n, st, dd, _, _, lc, ll, ce, en, re, lb, v, la, k, mem, ou, rn, _, ml, mc, ow, _, co, dw_N (by omega) (k_skip (by omega)), hM _ _ _ _ _ _ _ _ _ _ _ _ (mc_skip (by omega)), FR_next hF (a' := aa c + 1) (by omega) hdl pk_us hAt2 rfl, hD, hA, hB, Or.inr ⟨rfl, ?_⟩⟩
      have e1 : nst kd wt (S (dd c) + aa c) = 1 := if_pos ⟨hk, Or.inr (Or.inr hw)⟩
      rw [phi_top, phi_top0, nsc_s (show S (dd c) + aa c < S (dd c + 1) from hq), e1, show S (dd c) + (aa c + 1) = S (dd c) + aa c + 1 by omega]
      omega
    · -- until
      obtain ⟨t, t1, t2, t3, t4⟩ := c4 (by omega)
      rw [t2]
      exact ctl_takes hF hD hA hB hst hq (Or.inr (Or.inl rfl)) (by omega) t4 hdl (fun _ _ _ => t215_un0) (fun _ _ _ => t215_un1 (by omega) t3) hM
    · -- again
      by_cases h1 : st < 1000
      · obtain ⟨t, t1, t2, t3, t4⟩ := c4 (by omega)
        have e0 := hcf 38 rfl (by omega) (by omega)
        rw [if_pos h1, if_pos (show tkN 38 ≤ n from Nat.zero_le n), if_pos (show n - tkN 38 + gvN 38 ≤ 32 from hn)] at e0
        rw [t2]
        exact Or.inr ⟨lo, c + 1, n, st + 1, dd, _, _, lc, ll, ce, en, re, lb, v, la, k, mem, ou, rn, _, ml, mc, ow, _, co, dw_G (by omega) (by omega) (by omega) (by omega) (by omega) hn hlo hb hst e0 (k_jump (by omega)), hM _ _ _ _ _ _ _ _ _ _ _ _ ((t_front (by omega) h1 rfl).trans ((t105 (by omega)).trans (t215_ag (by omega) (by omega) t3))), FR_next hF (a' := t) (by omega) t4 pk_us (hAt3 t) rfl, hD, hA, hB, Or.inl ⟨h1, rfl⟩⟩
      · exact h8 h1 (by omega) _
    · -- while
      obtain ⟨t, t1, t2, t3, t4⟩ := c6 rfl
      rw [t2]
      exact ctl_takes hF hD hA hB hst hq (Or.inr (Or.inr rfl)) (by omega) t4 hdl (fun _ _ _ => t215_wh0) (fun _ _ _ => t215_wh1 (by omega) t3) hM
    · -- repeat
      by_cases h1 : st < 1000
      · obtain ⟨t, t1, t2, t3, t4⟩ := c4 (by omega)
        have e0 := hcf 40 rfl (by omega) (by omega)
        rw [if_pos h1, if_pos (show tkN 40 ≤ n from Nat.zero_le n), if_pos (show n - tkN 40 + gvN 40 ≤ 32 from hn)] at e0
        rw [t2]
        exact Or.inr ⟨lo, c + 1, n, st + 1, dd, _, _, lc, ll, ce, en, re, lb, v, la, k, mem, ou, rn, _, ml, mc, ow, _, co, dw_G (by omega) (by omega) (by omega) (by omega) (by omega) hn hlo hb hst e0 (k_jump (by omega)), hM _ _ _ _ _ _ _ _ _ _ _ _ ((t_front (by omega) h1 rfl).trans ((t105 (by omega)).trans (t215_ag (by omega) (by omega) t3))), FR_next hF (a' := t) (by omega) t4 pk_us (hAt3 t) rfl, hD, hA, hB, Or.inl ⟨h1, rfl⟩⟩
      · exact h8 h1 (by omega) _
    · -- do
      by_cases h1 : st < 1000
      · have e0 := cfl_do (st := st) (b := c + 1) (lo := lo) (top := tp v n 0) hn
        rw [if_pos h1] at e0
        have e1 := (t_front (ms := ms) (mz := mz) (kd := kd) (wt := wt) (k := k) (h := nI n) (rn := rn) (av := upd av c (nI (aa c + 1))) (ml := ml) (mc := mc) (ow := ow) (lp := nI lo) (flt := flt) (d := nI (dd c)) (p := nI (aa c)) (c := 8) (i := c) (by omega) h1 rfl).trans (t105_do hn hlo)
        by_cases h2 : 2 ≤ n
        · rw [if_pos h2] at e0 e1
          by_cases h3 : lo < 12
          · rw [if_pos h3] at e0 e1
            obtain ⟨m, rfl⟩ : ∃ m, n = m + 2 := ⟨n - 2, by omega⟩
            rw [t215_hi (by omega), t297_do (by omega) h3 (by omega)] at e1
            have a1 : v m = k m := hD.2.1 m (by omega)
            have a2 : v (m + 1) = k (m + 1) := hD.2.1 (m + 1) (by omega)
            have hc1 := FR_le hF (show c ≤ c + 1 by omega) (Nat.le_refl _)
            refine Or.inr ⟨lo + 1, c + 1, m, st + 1, dd, _, _, _, _, ce, en, re, lb, v, la, k, mem, ou, rn, _, _, _, _, _, co, dw_G (by omega) (by omega) (by omega) (by omega) (by omega) hn hlo hb hst e0 (k_do h3 (by omega)), hM _ _ _ _ _ _ _ _ _ _ _ _ e1, FR_move hF (a' := aa c + 1) (lo' := lo + 1) (by omega) ?_ (by omega) pk_us hAt2 (fun j hj => pk_un (by omega)) ?_ rfl, ⟨by omega, Ag_le hD.2.1 (by omega), hD.2.2⟩, ?_, ?_, Or.inl ⟨h1, rfl⟩⟩
            · rw [if_pos rfl] at hdl; omega
            · intro j j1 j2
              by_cases ej : j = lo
              · subst ej; exact pk_us
              · rw [pk_un ej]; exact g8 j j1 (by omega)
            · rw [a2]; exact Ag_up hA _
            · rw [a1]; exact Ag_up hB _
          · rw [if_neg h3] at e0 e1
            exact Or.inl ⟨7, lo, c + 1, n, lc, ll, ce, en, re, lb, v, la, k, mem, ou, rn, _, ml, mc, ow, _, co, by omega, by omega, dw_F (by omega) (by omega) (by omega) (by omega) hn hlo hb hst e0 (by omega), hM _ _ _ _ _ _ _ _ _ _ _ _ e1, hlo, hD⟩
        · rw [if_neg h2] at e0 e1
          exact Or.inl ⟨3, lo, c + 1, n, lc, ll, ce, en, re, lb, v, la, k, mem, ou, rn, _, ml, mc, ow, _, co, by omega, by omega, dw_F (by omega) (by omega) (by omega) (by omega) hn hlo hb hst e0 (by omega), hM _ _ _ _ _ _ _ _ _ _ _ _ e1, hlo, hD⟩
      · exact h8 h1 (by omega) _
    · -- loop
      by_cases h1 : st < 1000
      · obtain ⟨t, t1, t2, t3, t4⟩ := c4 (by omega)
        have h9 := c9 (by omega)
        rw [if_neg (by omega), if_pos rfl] at hdl
        obtain ⟨l, rfl⟩ : ∃ l, lo = l + 1 := ⟨lo - 1, by omega⟩
        have e0 := hcf 42 rfl (by omega) (by omega)
        rw [if_pos h1, if_pos (show tkN 42 ≤ n from Nat.zero_le n), if_pos (show n - tkN 42 + gvN 42 ≤ 32 from hn)] at e0
        have e1 := (t_front (ms := ms) (mz := mz) (kd := kd) (wt := wt) (k := k) (h := nI n) (rn := rn) (av := upd av c (nI (aa c + 1))) (ml := ml) (mc := mc) (ow := ow) (lp := nI (l + 1)) (flt := flt) (d := nI (dd c)) (p := nI (aa c)) (c := 9) (i := c) (by omega) h1 rfl).trans ((t105 (by omega)).trans ((t215_hi (by omega)).trans (t297_loop (by omega) (by omega) t3)))
        have e2 := k_loop (ds := ds) (lc := lc) (ll := ll) (en := en) (re := re) (lb := lb) (v := v) (b := nI (c + 1)) (pl := nI (S (dd c) + aa c + 1)) (h := nI n) (x := nI (S (dd c) + t)) (l := l) (by omega)
        have a1 : lc l = mc l := hA l (by omega)
        have a2 : ll l = ml l := hB l (by omega)
        rw [t2]
        by_cases hz : mc l + 1 = ml l
        · rw [if_pos hz] at e1
          rw [if_pos (by rw [a1, a2]; exact hz)] at e2
          refine Or.inr ⟨l, c + 1, n, st + 1, dd, _, _, _, ll, ce, en, re, lb, v, la, k, mem, ou, rn, _, ml, _, ow, _, co, dw_G (by omega) (by omega) (by omega) (by omega) (by omega) hn hlo hb hst e0 e2, hM _ _ _ _ _ _ _ _ _ _ _ _ e1, FR_move hF (a' := aa c + 1) (lo' := l) (by omega) (by omega) (by omega) pk_us hAt2 (fun j hj => rfl) (fun j j1 j2 => g8 j j1 (by omega)) rfl, hD, ?_, Ag_le hB (by omega), Or.inl ⟨h1, rfl⟩⟩
          rw [a1]; exact Ag_le (Ag_upn hA) (by omega)
        · rw [if_neg hz] at e1
          rw [if_neg (by rw [a1, a2]; exact hz)] at e2
          refine Or.inr ⟨l + 1, c + 1, n, st + 1, dd, _, _, _, ll, ce, en, re, lb, v, la, k, mem, ou, rn, _, ml, _, ow, _, co, dw_G (by omega) (by omega) (by omega) (by omega) (by omega) hn hlo hb hst e0 e2, hM _ _ _ _ _ _ _ _ _ _ _ _ e1, FR_next hF (a' := t) (by omega) t4 pk_us (hAt3 t) rfl, hD, ?_, hB, Or.inl ⟨h1, rfl⟩⟩
          rw [a1]; exact Ag_upn hA
      · exact h8 h1 (by omega) _
    · -- i
      by_cases h1 : st < 1000
      · have h9 := c9 (by omega)
        obtain ⟨l, rfl⟩ : ∃ l, lo = l + 1 := ⟨lo - 1, by omega⟩
        have e0 := hcf 43 rfl (by omega) (by omega)
        rw [if_pos h1, if_pos (show tkN 43 ≤ n from Nat.zero_le n)] at e0
        have e1 := (t_front (ms := ms) (mz := mz) (kd := kd) (wt := wt) (k := k) (h := nI n) (rn := rn) (av := upd av c (nI (aa c + 1))) (ml := ml) (mc := mc) (ow := ow) (lp := nI (l + 1)) (flt := flt) (d := nI (dd c)) (p := nI (aa c)) (c := 10) (i := c) (by omega) h1 rfl).trans (t105_i hn)
        have a1 : lc l = mc l := hA l (by omega)
        by_cases h2 : n = 32
        · rw [if_neg (show ¬ n - tkN 43 + gvN 43 ≤ 32 from by show ¬ n - 0 + 1 ≤ 32; omega)] at e0
          rw [if_pos h2] at e1
          exact Or.inl ⟨4, l + 1, c + 1, n, lc, ll, ce, en, re, lb, v, la, k, mem, ou, rn, _, ml, mc, ow, _, co, by omega, by omega, dw_F (by omega) (by omega) (by omega) (by omega) hn hlo hb hst e0 (by omega), hM _ _ _ _ _ _ _ _ _ _ _ _ e1, hlo, hD⟩
        · rw [if_pos (show n - tkN 43 + gvN 43 ≤ 32 from by show n - 0 + 1 ≤ 32; omega)] at e0
          rw [if_neg h2, t215_hi (by omega), t297_i (by omega) (by omega)] at e1
          refine Or.inr ⟨l + 1, c + 1, n + 1, st + 1, dd, _, _, lc, ll, ce, en, re, lb, _, la, _, mem, ou, rn, _, ml, mc, ow, _, co, dw_G (by omega) (by omega) (by omega) (by omega) (by omega) hn hlo hb hst e0 (k_i (by omega) (by omega)), hM _ _ _ _ _ _ _ _ _ _ _ _ e1, FR_next hF (a' := aa c + 1) (by omega) hdl pk_us hAt2 rfl, ⟨by omega, ?_, hD.2.2⟩, hA, hB, Or.inl ⟨h1, rfl⟩⟩
          rw [a1]; exact Ag_up hD.2.1 _
      · exact h8 h1 (by omega) _
    · -- exit
      by_cases h1 : st < 1000
      · have e0 := hcf 44 rfl (by omega) (by omega)
        rw [if_pos h1, if_pos (show tkN 44 ≤ n from Nat.zero_le n), if_pos (show n - tkN 44 + gvN 44 ≤ 32 from hn)] at e0
        have hF1 := FR_next hF (a' := aa c + 1) (pl' := nI (S (dd c) + aa c + 1)) (by omega) hdl pk_us hAt2 rfl
        have hc1 := FR_le hF1 (show c ≤ c + 1 by omega) (Nat.le_refl _)
        have h41 := hF1.2.2.2.1
        exact Or.inr ⟨_, c, n, st + 1, dd, _, _, lc, ll, ce, en, re, lb, v, la, k, mem, ou, rn, _, ml, mc, ow, _, co, dw_G (by omega) (by omega) (by omega) (by omega) (by omega) hn hlo hb hst e0 (k_leave (by omega) (pX5_leave hF1)), hM _ _ _ _ _ _ _ _ _ _ _ _ ((t_front (by omega) h1 rfl).trans ((t105 (by omega)).trans ((t215_hi (by omega)).trans (t297_exit (pX12_leave hF1))))), FR_leave hF1, hD, Ag_le hA (by omega), Ag_le hB (by omega), Or.inl ⟨h1, rfl⟩⟩
      · exact h8 h1 (by omega) _
    · -- recurse
      have hF1 := FR_next hF (a' := aa c + 1) (pl' := nI (S (dd c) + aa c + 1)) (by omega) hdl pk_us hAt2 rfl
      exact call_sim hK (Or.inr rfl) (c12 rfl) g1 hF1 hD hA hB hst (fun r rn' av' dp' st' f' hr hc => hM _ _ _ _ _ _ _ _ _ _ _ _ (mc_rec hr hc))
end
