/-! control words, reference -/
section
variable {ms mz kd wt k rn av ml mc ow : Nat → Int32} {h dp lp st flt d p x4 : Int32} {c i n : Nat}
theorem t297 (hc : c = 0 ∨ c = 4 ∨ c = 5 ∨ c = 6 ∨ c = 7) : fnX12_controlStep_297 ms mz kd wt (nI c) d p x4 k h rn av dp ml mc ow lp st flt = some (1, k, h, rn, av, dp, ml, mc, ow, lp, st, flt) := by
  unfold fnX12_controlStep_297 fnX12_controlStep_372 fnX12_controlStep_453 fnX12_controlStep_475
  rcases hc with rfl | rfl | rfl | rfl | rfl <;> rw [if_neg (by decide), if_neg (by decide), if_neg (by decide), if_neg (by decide)]
theorem t284 (hc : c = 4 ∨ c = 5 ∨ c = 7) (hi : i < 12) {r : Int32} (hb : fnX12_back ms mz kd wt d p = some r) : fnX12_controlStep_284 ms mz kd wt (nI c) d p (nI i) k h rn av dp ml mc ow lp st flt = some (1, k, h, rn, upd av i r, dp, ml, mc, ow, lp, st, flt) := by
  unfold fnX12_controlStep_284
  rw [hb, bd1_s, sa_n hi (by omega), bd1_s, t297 (by omega)]
theorem t263 (hc : c = 0 ∨ c = 6) {x6 : Int32} : fnX12_controlStep_263 ms mz kd wt (nI c) d p x4 x6 k h rn av dp ml mc ow lp st flt = some (1, k, h, rn, av, dp, ml, mc, ow, lp, st, flt) := by
  unfold fnX12_controlStep_263 fnX12_controlStep_273
  rcases hc with rfl | rfl <;> rw [if_neg (by decide), if_neg (by decide), if_neg (by decide), t297 (by omega)]
/-- if -/
theorem t215_if0 : fnX12_controlStep_215 ms mz kd wt (nI 0) d p x4 0 k h rn av dp ml mc ow lp st flt = some (1, k, h, rn, av, dp, ml, mc, ow, lp, st, flt) := by
  unfold fnX12_controlStep_215 fnX12_controlStep_238
  rw [if_pos (by decide), if_pos (by decide), if_neg (by decide), t263 (by omega)]
theorem t215_if1 (hi : i < 12) {r : Int32} (hb : fnX12_behind ms mz kd wt d p 1 = some r) : fnX12_controlStep_215 ms mz kd wt (nI 0) d p (nI i) 1 k h rn av dp ml mc ow lp st flt = some (1, k, h, rn, upd av i r, dp, ml, mc, ow, lp, st, flt) := by
  unfold fnX12_controlStep_215 fnX12_controlStep_238
  rw [if_pos (by decide), if_neg (by decide), hb, bd1_s, sa_n hi (by omega), bd1_s, if_neg (by decide), t263 (by omega)]
/-- while -/
theorem t215_wh0 : fnX12_controlStep_215 ms mz kd wt (nI 6) d p x4 0 k h rn av dp ml mc ow lp st flt = some (1, k, h, rn, av, dp, ml, mc, ow, lp, st, flt) := by
  unfold fnX12_controlStep_215 fnX12_controlStep_238
  rw [if_neg (by decide), if_pos (by decide), if_pos (by decide), t263 (by omega)]
theorem t215_wh1 (hi : i < 12) {r : Int32} (hb : fnX12_behind ms mz kd wt d p 0 = some r) : fnX12_controlStep_215 ms mz kd wt (nI 6) d p (nI i) 1 k h rn av dp ml mc ow lp st flt = some (1, k, h, rn, upd av i r, dp, ml, mc, ow, lp, st, flt) := by
  unfold fnX12_controlStep_215 fnX12_controlStep_238
  rw [if_neg (by decide), if_pos (by decide), if_neg (by decide), hb, bd1_s, sa_n hi (by omega), bd1_s, t263 (by omega)]
/-- until -/
theorem t215_un0 : fnX12_controlStep_215 ms mz kd wt (nI 4) d p x4 0 k h rn av dp ml mc ow lp st flt = some (1, k, h, rn, av, dp, ml, mc, ow, lp, st, flt) := by
  unfold fnX12_controlStep_215 fnX12_controlStep_238 fnX12_controlStep_263 fnX12_controlStep_273
  rw [if_neg (by decide), if_neg (by decide), if_pos (by decide), if_pos (by decide), if_neg (by decide), if_neg (by decide), t297 (by omega)]
theorem t215_un1 (hi : i < 12) {r : Int32} (hb : fnX12_back ms mz kd wt d p = some r) : fnX12_controlStep_215 ms mz kd wt (nI 4) d p (nI i) 1 k h rn av dp ml mc ow lp st flt = some (1, k, h, rn, upd av i r, dp, ml, mc, ow, lp, st, flt) := by
  unfold fnX12_controlStep_215 fnX12_controlStep_238 fnX12_controlStep_263
  rw [if_neg (by decide), if_neg (by decide), if_pos (by decide), if_neg (by decide), t284 (by omega) hi hb]
/-- again, repeat -/
theorem t215_ag (hc : c = 5 ∨ c = 7) (hi : i < 12) {r : Int32} (hb : fnX12_back ms mz kd wt d p = some r) : fnX12_controlStep_215 ms mz kd wt (nI c) d p (nI i) 0 k h rn av dp ml mc ow lp st flt = some (1, k, h, rn, upd av i r, dp, ml, mc, ow, lp, st, flt) := by
  unfold fnX12_controlStep_215 fnX12_controlStep_238 fnX12_controlStep_263 fnX12_controlStep_273
  rcases hc with rfl | rfl
  · rw [if_neg (by decide), if_neg (by decide), if_neg (by decide), if_pos (by decide), t284 (by omega) hi hb]
  · rw [if_neg (by decide), if_neg (by decide), if_neg (by decide), if_neg (by decide), if_pos (by decide), t284 (by omega) hi hb]
theorem t215_hi (hc : c = 8 ∨ c = 9 ∨ c = 10 ∨ c = 11) : fnX12_controlStep_215 ms mz kd wt (nI c) d p x4 0 k h rn av dp ml mc ow lp st flt = fnX12_controlStep_297 ms mz kd wt (nI c) d p x4 k h rn av dp ml mc ow lp st flt := by
  unfold fnX12_controlStep_215 fnX12_controlStep_238 fnX12_controlStep_263 fnX12_controlStep_273
  rcases hc with rfl | rfl | rfl | rfl <;> rw [if_neg (by decide), if_neg (by decide), if_neg (by decide), if_neg (by decide), if_neg (by decide)]
theorem t297_do {l : Nat} (hn : n + 2 ≤ 33) (hl : l < 12) (hi : i < 12) : fnX12_controlStep_297 ms mz kd wt (nI 8) d p (nI i) k (nI (n + 2)) rn av dp ml mc ow (nI l) st flt = some (1, k, nI n, rn, av, dp, upd ml l (k n), upd mc l (k (n + 1)), upd ow l (nI i), nI (l + 1), st, flt) := by
  unfold fnX12_controlStep_297 fnX12_controlStep_372 fnX12_controlStep_453 fnX12_controlStep_475
  rw [if_pos (by decide), show nI (n + 2) - 2 = nI n from pk_sub (a := n + 2) (b := 2) (by omega), ga_n (by omega) (by omega), bd1_s, sa_n hl (by omega), bd1_s, nI_1, ga_n (by omega) (by omega), bd1_s, sa_n hl (by omega), bd1_s, sa_n hl (by omega), bd1_s, if_neg (by decide), if_neg (by decide), if_neg (by decide), nI_1]
theorem t297_loop {l t : Nat} (hl : l < 12) (hi : i < 12) (hb : fnX12_back ms mz kd wt d p = some (nI t)) : fnX12_controlStep_297 ms mz kd wt (nI 9) d p (nI i) k h rn av dp ml mc ow (nI (l + 1)) st flt = if mc l + 1 = ml l then some (1, k, h, rn, av, dp, ml, upd mc l (mc l + 1), ow, nI l, st, flt) else some (1, k, h, rn, upd av i (nI t), dp, ml, upd mc l (mc l + 1), ow, nI (l + 1), st, flt) := by
  unfold fnX12_controlStep_297 fnX12_controlStep_372 fnX12_controlStep_453 fnX12_controlStep_475
  rw [if_neg (by decide), if_pos (by decide), show nI (l + 1) - 1 = nI l from pk_sub (a := l + 1) (b := 1) (by omega), ga_n hl (by omega), bd1_s, sa_n hl (by omega), bd1_s, ga_n hl (by omega), bd1_s, ga_n hl (by omega), bd1_s, pk_us, hb]
  by_cases e : mc l + 1 = ml l
  · rw [if_pos e, if_pos e, if_neg (by decide), if_neg (by decide)]
  · rw [if_neg e, if_neg e, bd1_s, sa_n hi (by omega), bd1_s, if_neg (by decide), if_neg (by decide)]
theorem t297_i {l : Nat} (hl : l < 12) (hn : n < 33) : fnX12_controlStep_297 ms mz kd wt (nI 10) d p x4 k (nI n) rn av dp ml mc ow (nI (l + 1)) st flt = some (1, upd k n (mc l), nI (n + 1), rn, av, dp, ml, mc, ow, nI (l + 1), st, flt) := by
  unfold fnX12_controlStep_297 fnX12_controlStep_372 fnX12_controlStep_453 fnX12_controlStep_475
  rw [if_neg (by decide), if_neg (by decide), if_pos (by decide), show nI (l + 1) - 1 = nI l from pk_sub (a := l + 1) (b := 1) (by omega), ga_n hl (by omega), bd1_s, pX12_put hn, bd2_s, if_neg (by decide)]
theorem t297_exit {dp' lp' : Int32} (hb : fnX12_leave dp ow lp = some (dp', lp')) : fnX12_controlStep_297 ms mz kd wt (nI 11) d p x4 k h rn av dp ml mc ow lp st flt = some (1, k, h, rn, av, dp', ml, mc, ow, lp', st, flt) := by
  unfold fnX12_controlStep_297 fnX12_controlStep_372 fnX12_controlStep_453 fnX12_controlStep_475
  rw [if_neg (by decide), if_neg (by decide), if_neg (by decide), if_pos (by decide), hb, bd2_s]
/-! the whole control step -/
theorem mc_skip (hc : c = 2 ∨ c = 3) : fnX12_controlStep k h ms mz kd wt rn av dp ml mc ow lp st flt (nI c) d p = some (1, k, h, rn, av, dp, ml, mc, ow, lp, st, flt) := by
  unfold fnX12_controlStep
  rcases hc with rfl | rfl
  · rw [if_pos (by decide)]
  · rw [if_neg (by decide), if_pos (by decide)]
theorem mc_else (hi : i < 12) {r : Int32} (hb : fnX12_behind ms mz kd wt d p 0 = some r) : fnX12_controlStep k h ms mz kd wt rn av (nI (i + 1)) ml mc ow lp st flt (nI 1) d p = some (1, k, h, rn, upd av i r, nI (i + 1), ml, mc, ow, lp, st, flt) := by
  unfold fnX12_controlStep
  rw [if_neg (by decide), if_neg (by decide), if_pos (by decide), hb, bd1_s, show nI (i + 1) - 1 = nI i from pk_sub (a := i + 1) (b := 1) (by omega), sa_n hi (by omega), bd1_s]
theorem mc_rec {r st' flt' dp' : Int32} {rn' av' : Nat → Int32} (hr : r = 0 ∨ r = 1) (hb : fnX12_call rn av dp st flt d = some (r, rn', av', dp', st', flt')) : fnX12_controlStep k h ms mz kd wt rn av dp ml mc ow lp st flt (nI 12) d p = some (r, k, h, rn', av', dp', ml, mc, ow, lp, st', flt') := by
  unfold fnX12_controlStep
  rw [if_neg (by decide), if_neg (by decide), if_neg (by decide), if_pos (by decide), hb, bd6_s, gd_t hr]
theorem mc_8 (hc : c = 0 ∨ c = 4 ∨ c = 5 ∨ c = 6 ∨ c = 7 ∨ c = 8 ∨ c = 9 ∨ c = 10 ∨ c = 11) : fnX12_controlStep k h ms mz kd wt rn av dp ml mc ow lp 1000 flt (nI c) d p = some (0, k, h, rn, av, dp, ml, mc, ow, lp, 1000, 8) := by
  unfold fnX12_controlStep fnX12_stop
  rcases hc with rfl | rfl | rfl | rfl | rfl | rfl | rfl | rfl | rfl <;> rw [if_neg (by decide), if_neg (by decide), if_neg (by decide), if_neg (by decide), if_pos rfl, bd2_s, gd_t (Or.inl rfl)]
variable {s : Nat}
theorem mc_takes0 (hc : c = 0 ∨ c = 4 ∨ c = 6) (hs : s < 1000) : fnX12_controlStep k (nI 0) ms mz kd wt rn av dp ml mc ow lp (nI s) flt (nI c) d p = some (0, k, nI 0, rn, av, dp, ml, mc, ow, lp, nI s, 3) := by
  have e : fnX12_controlStep_119 ms mz kd wt k (nI 0) rn av dp ml mc ow lp (nI s) flt = some (0, k, nI 0, rn, av, dp, ml, mc, ow, lp, nI s, 3) := by
    unfold fnX12_controlStep_119 fnX12_stop
    rw [bd2_s, gd_t (Or.inl rfl)]
  unfold fnX12_controlStep fnX12_controlStep_85 fnX12_controlStep_90
  rcases hc with rfl | rfl | rfl
  · rw [if_neg (by decide), if_neg (by decide), if_neg (by decide), if_neg (by decide), if_neg (ne_L 1000 1000 (by omega)), if_pos (by decide), if_neg (by decide), if_pos (by decide), e]
  · rw [if_neg (by decide), if_neg (by decide), if_neg (by decide), if_neg (by decide), if_neg (ne_L 1000 1000 (by omega)), if_neg (by decide), if_pos (by decide), if_neg (by decide), if_pos (by decide), e]
  · rw [if_neg (by decide), if_neg (by decide), if_neg (by decide), if_neg (by decide), if_neg (ne_L 1000 1000 (by omega)), if_neg (by decide), if_neg (by decide), if_pos (by decide), if_neg (by decide), if_pos (by decide), e]
theorem t90 (hc : c = 0 ∨ c = 4 ∨ c = 6) (hn : n < 33) : fnX12_controlStep_90 ms mz kd wt (nI c) d p x4 1 k (nI (n + 1)) rn av dp ml mc ow lp (nI s) flt = if k n = 0 then fnX12_controlStep_215 ms mz kd wt (nI c) d p x4 1 k (nI n) rn av dp ml mc ow lp (nI (s + 1)) flt else fnX12_controlStep_215 ms mz kd wt (nI c) d p x4 0 k (nI n) rn av dp ml mc ow lp (nI (s + 1)) flt := by
  unfold fnX12_controlStep_90 fnX12_controlStep_105 fnX12_controlStep_125 fnX12_controlStep_147 fnX12_controlStep_168 fnX12_controlStep_213
  rw [if_neg (by decide), if_neg (sR_f 1 1 (by omega))]
  rcases hc with rfl | rfl | rfl <;> rw [if_neg (by decide), if_neg (by decide), if_neg (by decide), if_neg (by decide), show nI (n + 1) - 1 = nI n from pk_sub (a := n + 1) (b := 1) (by omega), ga_n hn (by omega), bd1_s, nI_1]
theorem mc_takes (hc : c = 0 ∨ c = 4 ∨ c = 6) (hs : s < 1000) (hn : n < 33) (hdp : dp = nI (i + 1)) : fnX12_controlStep k (nI (n + 1)) ms mz kd wt rn av dp ml mc ow lp (nI s) flt (nI c) d p = if k n = 0 then fnX12_controlStep_215 ms mz kd wt (nI c) d p (nI i) 1 k (nI n) rn av dp ml mc ow lp (nI (s + 1)) flt else fnX12_controlStep_215 ms mz kd wt (nI c) d p (nI i) 0 k (nI n) rn av dp ml mc ow lp (nI (s + 1)) flt := by
  have e : dp - 1 = nI i := by rw [hdp]; exact pk_sub (a := i + 1) (b := 1) (by omega)
  unfold fnX12_controlStep fnX12_controlStep_85
  rw [e]
  rcases hc with rfl | rfl | rfl
  · rw [if_neg (by decide), if_neg (by decide), if_neg (by decide), if_neg (by decide), if_neg (ne_L 1000 1000 (by omega)), if_pos (by decide), t90 (by omega) hn]
  · rw [if_neg (by decide), if_neg (by decide), if_neg (by decide), if_neg (by decide), if_neg (ne_L 1000 1000 (by omega)), if_neg (by decide), if_pos (by decide), t90 (by omega) hn]
  · rw [if_neg (by decide), if_neg (by decide), if_neg (by decide), if_neg (by decide), if_neg (ne_L 1000 1000 (by omega)), if_neg (by decide), if_neg (by decide), if_pos (by decide), t90 (by omega) hn]
theorem t_front (hc : c = 5 ∨ c = 7 ∨ c = 8 ∨ c = 9 ∨ c = 10 ∨ c = 11) (hs : s < 1000) (hdp : dp = nI (i + 1)) : fnX12_controlStep k h ms mz kd wt rn av dp ml mc ow lp (nI s) flt (nI c) d p = fnX12_controlStep_105 ms mz kd wt (nI c) d p (nI i) 0 k h rn av dp ml mc ow lp (nI s) flt := by
  have e : dp - 1 = nI i := by rw [hdp]; exact pk_sub (a := i + 1) (b := 1) (by omega)
  unfold fnX12_controlStep fnX12_controlStep_90
  rw [e]
  rcases hc with rfl | rfl | rfl | rfl | rfl | rfl <;> rw [if_neg (by decide), if_neg (by decide), if_neg (by decide), if_neg (by decide), if_neg (ne_L 1000 1000 (by omega)), if_neg (by decide), if_neg (by decide), if_neg (by decide), if_pos (by decide)]
theorem t105 (hc : c = 5 ∨ c = 7 ∨ c = 9 ∨ c = 11) : fnX12_controlStep_105 ms mz kd wt (nI c) d p x4 0 k h rn av dp ml mc ow lp (nI s) flt = fnX12_controlStep_215 ms mz kd wt (nI c) d p x4 0 k h rn av dp ml mc ow lp (nI (s + 1)) flt := by
  unfold fnX12_controlStep_105 fnX12_controlStep_125 fnX12_controlStep_147 fnX12_controlStep_168
  rcases hc with rfl | rfl | rfl | rfl <;> rw [if_neg (by decide), if_neg (by decide), if_neg (by decide), if_pos (by decide), nI_1]
theorem t105_i (hn : n ≤ 32) : fnX12_controlStep_105 ms mz kd wt (nI 10) d p x4 0 k (nI n) rn av dp ml mc ow lp (nI s) flt = if n = 32 then some (0, k, nI n, rn, av, dp, ml, mc, ow, lp, nI s, 4) else fnX12_controlStep_215 ms mz kd wt (nI 10) d p x4 0 k (nI n) rn av dp ml mc ow lp (nI (s + 1)) flt := by
  unfold fnX12_controlStep_105 fnX12_controlStep_125 fnX12_controlStep_147 fnX12_controlStep_168 fnX12_stop
  rw [if_neg (by decide), if_neg (by decide), if_pos (by decide)]
  by_cases e : n = 32
  · rw [if_pos (by rw [e]; rfl), if_pos e, bd2_s, gd_t (Or.inl rfl)]
  · rw [if_neg (ne_L 32 32 e), if_neg e, if_pos (by decide), nI_1]
theorem t105_do {l : Nat} (hn : n ≤ 32) (hl : l ≤ 12) : fnX12_controlStep_105 ms mz kd wt (nI 8) d p x4 0 k (nI n) rn av dp ml mc ow (nI l) (nI s) flt = if 2 ≤ n then (if l < 12 then fnX12_controlStep_215 ms mz kd wt (nI 8) d p x4 0 k (nI n) rn av dp ml mc ow (nI l) (nI (s + 1)) flt else some (0, k, nI n, rn, av, dp, ml, mc, ow, nI l, nI s, 7)) else some (0, k, nI n, rn, av, dp, ml, mc, ow, nI l, nI s, 3) := by
  unfold fnX12_controlStep_105 fnX12_controlStep_125 fnX12_controlStep_147 fnX12_controlStep_168 fnX12_controlStep_119 fnX12_stop
  rw [if_pos (by decide)]
  by_cases e : 2 ≤ n
  · rw [if_pos (lL_t 2 2 e), if_pos e, if_pos (by decide)]
    by_cases e2 : l < 12
    · rw [if_neg (ne_L 12 12 (by omega)), if_pos e2, if_neg (by decide), if_pos (by decide), nI_1]
    · rw [if_pos (show nI l = 12 by rw [show l = 12 by omega]; rfl), if_neg e2, bd2_s, gd_t (Or.inl rfl)]
  · rw [if_neg (lL_f 2 2 e), if_neg e, bd2_s, gd_t (Or.inl rfl)]
end
/-! control words, class -/
theorem cfl_gen {o st n b lo : Nat} {top : Int32} (h1 : ¬ (o = 29 ∨ o = 30 ∨ o = 31)) (h2 : ¬ (o = 12 ∨ o = 13)) (h3 : ¬ (o = 50 ∨ o = 45)) (h4 : ¬ o = 41) (h5 : ¬ o = 7) : cfl o st n b lo top = if st < 1000 then (if tkN o ≤ n then (if n - tkN o + gvN o ≤ 32 then 0 else 4) else 3) else 8 := by
  unfold cfl s0 s66 s84 s108 s129
  simp only [h1, h2, h3, h4, h5, if_false, false_and]
theorem cfl_call {o st n b lo : Nat} {top : Int32} (ho : o = 50 ∨ o = 45) (hn : n ≤ 32) : cfl o st n b lo top = if st < 1000 then (if b < 12 then 0 else 7) else 8 := by
  unfold cfl s0 s66 s84 s108 s129
  rcases ho with rfl | rfl
  · rw [if_pos (show tkN 50 ≤ n from Nat.zero_le n), if_neg (show ¬ (50 = 29 ∨ 50 = 30 ∨ 50 = 31) by decide), if_neg (show ¬ (50 = 12 ∨ 50 = 13) by decide), if_pos (show 50 = 50 ∨ 50 = 45 by decide), if_neg (show ¬ 50 = 41 by decide), if_neg (show ¬ (50 = 7 ∧ top = 0) from fun z => absurd z.1 (by decide)), if_pos (show n - tkN 50 + gvN 50 ≤ 32 from hn)]
  · rw [if_pos (show tkN 45 ≤ n from Nat.zero_le n), if_neg (show ¬ (45 = 29 ∨ 45 = 30 ∨ 45 = 31) by decide), if_neg (show ¬ (45 = 12 ∨ 45 = 13) by decide), if_pos (show 45 = 50 ∨ 45 = 45 by decide), if_neg (show ¬ 45 = 41 by decide), if_neg (show ¬ (45 = 7 ∧ top = 0) from fun z => absurd z.1 (by decide)), if_pos (show n - tkN 45 + gvN 45 ≤ 32 from hn)]
theorem cfl_do {st n b lo : Nat} {top : Int32} (hn : n ≤ 32) : cfl 41 st n b lo top = if st < 1000 then (if 2 ≤ n then (if lo < 12 then 0 else 7) else 3) else 8 := by
  unfold cfl s0 s66 s84 s108 s129
  rw [if_neg (show ¬ (41 = 29 ∨ 41 = 30 ∨ 41 = 31) by decide), if_neg (show ¬ (41 = 12 ∨ 41 = 13) by decide), if_neg (show ¬ (41 = 50 ∨ 41 = 45) by decide), if_pos (show 41 = 41 by decide), if_neg (show ¬ (41 = 7 ∧ top = 0) from fun z => absurd z.1 (by decide)), if_pos (show n - tkN 41 + gvN 41 ≤ 32 from by show n - 2 + 0 ≤ 32; omega)]
  rfl
section
variable {ds lc ll en re lb v : Nat → Int32} {lo b pl h x : Int32} {n l : Nat}
theorem k_do (hl : l < 12) (hn : n + 2 ≤ 32) : fnX5_control ds lc ll (nI l) en re lb b pl v (nI (n + 2)) (nI 41) x = some (upd lc l (v (n + 1)), upd ll l (v n), nI (l + 1), en, re, lb, b, pl, v, nI n) := by
  unfold fnX5_control fnX4_begin
  rw [if_pos (by decide), pX7_take (n := n + 1) (by omega), bd2_s, pX7_take (by omega), bd2_s, if_neg (nI_pos (by omega)), if_neg (lL_f 12 12 (by omega)), sa_n hl (by omega), bd1_s, sa_n hl (by omega), bd1_s, bd3_s, nI_1]
theorem k_loop (hl : l < 12) : fnX5_control ds lc ll (nI (l + 1)) en re lb b pl v h (nI 42) x = if lc l + 1 = ll l then some (upd lc l (lc l + 1), ll, nI l, en, re, lb, b, pl, v, h) else some (upd lc l (lc l + 1), ll, nI (l + 1), en, re, lb, b, x, v, h) := by
  unfold fnX5_control fnX5_control_131 fnX5_leads fnX4_goesRound
  rw [if_neg (by decide), if_pos (by decide), if_neg (by decide), if_neg (by decide), if_neg (by decide), if_neg (by decide), if_neg (by decide), if_neg (by decide), if_neg (by decide), if_neg (by decide), if_neg (by decide), if_pos (by decide), if_neg (lR_f 0 0 (by omega)), if_pos (lR_t 12 12 (by omega)), show nI (l + 1) - 1 = nI l from pk_sub (a := l + 1) (b := 1) (by omega), ga_n hl (by omega), bd1_s, sa_n hl (by omega), bd1_s, ga_n hl (by omega), bd1_s, ga_n hl (by omega), bd1_s, pk_us]
  by_cases e : lc l + 1 = ll l
  · rw [if_pos e, if_pos e, bd3_s, gd_t (Or.inl rfl), bd4_s, if_pos rfl]
  · rw [if_neg e, if_neg e, bd3_s, gd_t (Or.inr rfl), bd4_s, if_neg (by decide)]
theorem k_i (hl : l < 12) (hn : n < 32) : fnX5_control ds lc ll (nI (l + 1)) en re lb b pl v (nI n) (nI 43) x = some (lc, ll, nI (l + 1), en, re, lb, b, pl, upd v n (lc l), nI (n + 1)) := by
  unfold fnX5_control fnX4_innermostCount
  rw [if_neg (by decide), if_neg (by decide), if_pos (by decide), if_neg (lR_f 0 0 (by omega)), if_neg (sL_f 12 12 (by omega)), show nI (l + 1) - 1 = nI l from pk_sub (a := l + 1) (b := 1) (by omega), ga_n hl (by omega), bd1_s, bd1_s, pX7_put hn, bd3_s]
theorem k_leave {o : Nat} (ho : o = 44 ∨ o = 51) {lo' b' pl' : Int32} (hb : fnX5_leave lo re lb b pl = some (lo', b', pl')) : fnX5_control ds lc ll lo en re lb b pl v h (nI o) x = some (lc, ll, lo', en, re, lb, b', pl', v, h) := by
  unfold fnX5_control fnX5_control_80
  rcases ho with rfl | rfl
  · rw [if_neg (by decide), if_neg (by decide), if_neg (by decide), if_pos (by decide), hb, bd3_s]
  · rw [if_neg (by decide), if_neg (by decide), if_neg (by decide), if_neg (by decide), if_neg (by decide), if_neg (by decide), if_neg (by decide), if_neg (by decide), if_neg (by decide), if_neg (by decide), if_pos (by decide), hb, bd3_s]
theorem k_enter {o : Nat} (ho : o = 45 ∨ o = 50) {en' re' lb' : Nat → Int32} {b' pl' : Int32} (hb : fnX5_enter ds lo en re lb b pl x = some (en', re', lb', b', pl')) : fnX5_control ds lc ll lo en re lb b pl v h (nI o) x = some (lc, ll, lo, en', re', lb', b', pl', v, h) := by
  unfold fnX5_control fnX5_control_72
  rcases ho with rfl | rfl
  · rw [if_neg (by decide), if_neg (by decide), if_neg (by decide), if_neg (by decide), if_pos (by decide), hb, bd5_s]
  · rw [if_neg (by decide), if_neg (by decide), if_neg (by decide), if_neg (by decide), if_neg (by decide), if_neg (by decide), if_neg (by decide), if_neg (by decide), if_neg (by decide), if_pos (by decide), hb, bd5_s]
theorem k_num (hn : n < 32) : fnX5_control ds lc ll lo en re lb b pl v (nI n) (nI 49) x = some (lc, ll, lo, en, re, lb, b, pl, upd v n x, nI (n + 1)) := by
  unfold fnX5_control
  rw [if_neg (by decide), if_neg (by decide), if_neg (by decide), if_neg (by decide), if_neg (by decide), if_neg (by decide), if_neg (by decide), if_neg (by decide), if_pos (by decide), pX7_put hn, bd3_s]
theorem k_131 {o : Nat} (ho : 33 ≤ o ∧ o ≤ 40) : fnX5_control ds lc ll lo en re lb b pl v h (nI o) x = fnX5_control_131 ds (nI o) x lc ll lo en re lb b pl v h := by
  unfold fnX5_control
  rcases (show o = 33 ∨ o = 34 ∨ o = 35 ∨ o = 36 ∨ o = 37 ∨ o = 38 ∨ o = 39 ∨ o = 40 by omega) with rfl | rfl | rfl | rfl | rfl | rfl | rfl | rfl <;> rw [if_neg (by decide), if_neg (by decide), if_neg (by decide), if_neg (by decide), if_neg (by decide), if_neg (by decide), if_neg (by decide), if_neg (by decide), if_neg (by decide), if_neg (by decide), if_neg (by decide)]
theorem k_takes {o : Nat} (ho : o = 33 ∨ o = 37 ∨ o = 39) (hn : n < 32) : fnX5_control ds lc ll lo en re lb b pl v (nI (n + 1)) (nI o) x = if v n = 0 then some (lc, ll, lo, en, re, lb, b, x, v, nI n) else some (lc, ll, lo, en, re, lb, b, pl, v, nI n) := by
  have e56 : fnX5_leads_56 ll v lc lo (nI (n + 1)) = if v n = 0 then some (1, lc, lo, nI n) else some (0, lc, lo, nI n) := by
    unfold fnX5_leads_56
    rw [pX7_take hn, bd2_s]
  rw [k_131 (by omega)]
  unfold fnX5_control_131
  have e : fnX5_leads lc ll lo v (nI (n + 1)) (nI o) = if v n = 0 then some (1, lc, lo, nI n) else some (0, lc, lo, nI n) := by
    unfold fnX5_leads
    rcases ho with rfl | rfl | rfl
    · rw [if_pos (by decide), e56]
    · rw [if_neg (by decide), if_neg (by decide), if_neg (by decide), if_neg (by decide), if_pos (by decide), e56]
    · rw [if_neg (by decide), if_neg (by decide), if_neg (by decide), if_neg (by decide), if_neg (by decide), if_neg (by decide), if_pos (by decide), e56]
  rw [e]
  by_cases hz : v n = 0
  · rw [if_pos hz, if_pos hz, bd4_s, if_neg (by decide)]
  · rw [if_neg hz, if_neg hz, bd4_s, if_pos rfl]
theorem k_jump {o : Nat} (ho : o = 34 ∨ o = 38 ∨ o = 40) : fnX5_control ds lc ll lo en re lb b pl v h (nI o) x = some (lc, ll, lo, en, re, lb, b, x, v, h) := by
  rw [k_131 (by omega)]
  unfold fnX5_control_131
  have e : fnX5_leads lc ll lo v h (nI o) = some (1, lc, lo, h) := by
    unfold fnX5_leads fnX5_leads_80
    rcases ho with rfl | rfl | rfl
    · rw [if_neg (by decide), if_pos (by decide), if_pos (by decide)]
    · rw [if_neg (by decide), if_neg (by decide), if_neg (by decide), if_neg (by decide), if_neg (by decide), if_pos (by decide), if_neg (by decide), if_pos (by decide)]
    · rw [if_neg (by decide), if_neg (by decide), if_neg (by decide), if_neg (by decide), if_neg (by decide), if_neg (by decide), if_neg (by decide), if_pos (by decide), if_neg (by decide), if_neg (by decide), if_pos (by decide)]
  rw [e, bd4_s, if_neg (by decide)]
theorem k_skip {o : Nat} (ho : o = 35 ∨ o = 36) : fnX5_control ds lc ll lo en re lb b pl v h (nI o) x = some (lc, ll, lo, en, re, lb, b, pl, v, h) := by
  rw [k_131 (by omega)]
  unfold fnX5_control_131
  have e : fnX5_leads lc ll lo v h (nI o) = some (0, lc, lo, h) := by
    unfold fnX5_leads fnX5_leads_80
    rcases ho with rfl | rfl
    · rw [if_neg (by decide), if_neg (by decide), if_pos (by decide), if_neg (by decide), if_neg (by decide), if_neg (by decide)]
    · rw [if_neg (by decide), if_neg (by decide), if_neg (by decide), if_pos (by decide), if_neg (by decide), if_neg (by decide), if_neg (by decide)]
  rw [e, bd4_s, if_pos rfl]
end
