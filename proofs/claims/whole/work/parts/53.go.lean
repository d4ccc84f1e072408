/-! the running: class's turns and reference's rounds, side by side -/
theorem bd5_15 {α0 α1 α2 α3 α4 b0 b1 b2 b3 b4 b5 b6 b7 b8 b9 b10 b11 b12 b13 b14 γ : Type} {X : Option (α0 × α1 × α2 × α3 × α4)} {f : α0 → α1 → α2 → α3 → α4 → Option (b0 × b1 × b2 × b3 × b4 × b5 × b6 × b7 × b8 × b9 × b10 × b11 × b12 × b13 × b14)} {K : b0 → b1 → b2 → b3 → b4 → b5 → b6 → b7 → b8 → b9 → b10 → b11 → b12 → b13 → b14 → Option γ} : bd15 (bd5 X f) K = bd5 X (fun a b c d e => bd15 (f a b c d e) K) := by cases X <;> rfl
theorem bd6_15 {α0 α1 α2 α3 α4 α5 b0 b1 b2 b3 b4 b5 b6 b7 b8 b9 b10 b11 b12 b13 b14 γ : Type} {X : Option (α0 × α1 × α2 × α3 × α4 × α5)} {f : α0 → α1 → α2 → α3 → α4 → α5 → Option (b0 × b1 × b2 × b3 × b4 × b5 × b6 × b7 × b8 × b9 × b10 × b11 × b12 × b13 × b14)} {K : b0 → b1 → b2 → b3 → b4 → b5 → b6 → b7 → b8 → b9 → b10 → b11 → b12 → b13 → b14 → Option γ} : bd15 (bd6 X f) K = bd6 X (fun a b c d e g => bd15 (f a b c d e g) K) := by cases X <;> rfl
theorem bd8_15 {α0 α1 α2 α3 α4 α5 α6 α7 b0 b1 b2 b3 b4 b5 b6 b7 b8 b9 b10 b11 b12 b13 b14 γ : Type} {X : Option (α0 × α1 × α2 × α3 × α4 × α5 × α6 × α7)} {f : α0 → α1 → α2 → α3 → α4 → α5 → α6 → α7 → Option (b0 × b1 × b2 × b3 × b4 × b5 × b6 × b7 × b8 × b9 × b10 × b11 × b12 × b13 × b14)} {K : b0 → b1 → b2 → b3 → b4 → b5 → b6 → b7 → b8 → b9 → b10 → b11 → b12 → b13 → b14 → Option γ} : bd15 (bd8 X f) K = bd8 X (fun a b c d e g h i => bd15 (f a b c d e g h i) K) := by cases X <;> rfl
theorem bd12_15 {α0 α1 α2 α3 α4 α5 α6 α7 α8 α9 α10 α11 b0 b1 b2 b3 b4 b5 b6 b7 b8 b9 b10 b11 b12 b13 b14 γ : Type} {X : Option (α0 × α1 × α2 × α3 × α4 × α5 × α6 × α7 × α8 × α9 × α10 × α11)} {f : α0 → α1 → α2 → α3 → α4 → α5 → α6 → α7 → α8 → α9 → α10 → α11 → Option (b0 × b1 × b2 × b3 × b4 × b5 × b6 × b7 × b8 × b9 × b10 × b11 × b12 × b13 × b14)} {K : b0 → b1 → b2 → b3 → b4 → b5 → b6 → b7 → b8 → b9 → b10 → b11 → b12 → b13 → b14 → Option γ} : bd15 (bd12 X f) K = bd12 X (fun a b c d e g h i j k l m => bd15 (f a b c d e g h i j k l m) K) := by cases X <;> rfl
section
variable {ds ops args ms mz kd wt : Nat → Int32} {S : Nat → Nat} {sz : Nat}
variable {c lo : Nat} {dd aa L : Nat → Nat} {en re lb rn av ow : Nat → Int32} {pl : Int32}
variable {lc ll ce v la k mem ou ml mc : Nat → Int32} {co flt outs h lp s0 : Int32} {st n tn rd f g P E d a s z : Nat}
theorem C_word (ht : tn < 201201) (hc : c < 12) (hE : en c = nI E) (hP : P < E) (hE2 : E ≤ 200) {lo n' : Int32} : fnX5_obey_10 ops args ds (f + 1) 0 (nI tn) lc ll lo ce en re lb (nI (c + 1)) (nI P) s0 v n' la co = bd15 (fnX5_doWord ds lc ll lo ce en re lb (nI (c + 1)) (nI (P + 1)) s0 v n' la co (ops P) (args P)) fun r lc ll lo ce en re lb b pl st v n la co => fnX5_obey_10 ops args ds f r (nI (tn + 1)) lc ll lo ce en re lb b pl st v n la co := by
  rw [fnX5_obey_10, if_neg (lL_f 201201 201201 (by omega)), if_neg (lR_f 0 0 (by omega)), if_pos rfl]
  unfold fnX5_atBodyEnd fnX0_opAt fnX0_argAt fnX5_obey_83
  rw [if_neg (lR_f 0 0 (by omega)), if_neg (sL_f 12 12 (by omega)), show nI (c + 1) - 1 = nI c from pk_sub (a := c + 1) (b := 1) (by omega), ga_n hc (by omega), bd1_s, hE, if_pos ((nI_ltI (by omega) (by omega)).mpr hP), bd1_s, if_pos rfl, if_neg (nI_pos (by omega)), if_neg (lL_f 200 200 (by omega)), ga_n (by omega) (by omega), bd1_s, bd1_s, ga_n (by omega) (by omega), if_neg (nI_pos (by omega)), if_neg (lL_f 200 200 (by omega)), bd1_s, bd1_s, nI_1, nI_1]
theorem C_end (ht : tn < 201201) (hc : c < 12) (hE : en c = nI E) (hE2 : E ≤ 200) {lo n' : Int32} : fnX5_obey_10 ops args ds (f + 1) 0 (nI tn) lc ll lo ce en re lb (nI (c + 1)) (nI E) s0 v n' la co = bd15 (fnX5_doWord ds lc ll lo ce en re lb (nI (c + 1)) (nI (E + 1)) s0 v n' la co (nI 51) 0) fun r lc ll lo ce en re lb b pl st v n la co => fnX5_obey_10 ops args ds f r (nI (tn + 1)) lc ll lo ce en re lb b pl st v n la co := by
  rw [fnX5_obey_10, if_neg (lL_f 201201 201201 (by omega)), if_neg (lR_f 0 0 (by omega)), if_pos rfl]
  unfold fnX5_atBodyEnd fnX5_obey_83
  rw [if_neg (lR_f 0 0 (by omega)), if_neg (sL_f 12 12 (by omega)), show nI (c + 1) - 1 = nI c from pk_sub (a := c + 1) (b := 1) (by omega), ga_n hc (by omega), bd1_s, hE, if_neg (fun y => absurd ((nI_ltI (by omega) (by omega)).mp y) (by omega)), bd1_s, if_neg (by decide), nI_1, nI_1]
  rfl
theorem C_fault {F : Nat} (hF : F ≠ 0) (hF8 : F ≤ 8) {t lo b n' : Int32} : fnX5_obey_10 ops args ds (f + 1) (nI F) t lc ll lo ce en re lb b pl s0 v n' la co = some (nI F, lc, ll, lo, ce, en, re, lb, b, pl, s0, v, n', la, co) := by
  rw [fnX5_obey_10]
  by_cases h1 : 201201 ≤ t
  · rw [if_pos h1]
  · rw [if_neg h1]
    by_cases h2 : b ≤ 0
    · rw [if_pos h2]
    · rw [if_neg h2, if_neg (ne_L 0 0 hF)]
theorem C_done (ht : tn < 201201) {lo n' : Int32} : fnX5_obey_10 ops args ds (f + 1) 0 (nI tn) lc ll lo ce en re lb (nI 0) pl s0 v n' la co = some (0, lc, ll, lo, ce, en, re, lb, nI 0, pl, s0, v, n', la, co) := by
  rw [fnX5_obey_10, if_neg (lL_f 201201 201201 (by omega)), if_pos (by decide)]
theorem M_fault {r b : Int32} : fnX12_go_4 ms mz kd wt (g + 1) 0 r k h mem ou outs rn av b ml mc ow lp s0 flt = some (0, k, h, mem, ou, outs, rn, av, b, ml, mc, ow, lp, s0, flt) := by
  rw [fnX12_go_4, gd_t (Or.inl rfl)]
  by_cases h1 : 100000 ≤ r
  · rw [if_pos h1]
  · rw [if_neg h1, if_pos rfl]
theorem M_done (hr : rd < 100000) : fnX12_go_4 ms mz kd wt (g + 1) 1 (nI rd) k h mem ou outs rn av (nI 0) ml mc ow lp s0 flt = some (1, k, h, mem, ou, outs, rn, av, nI 0, ml, mc, ow, lp, s0, flt) := by
  rw [fnX12_go_4, gd_t (Or.inr rfl), if_neg (lL_f 100000 100000 (by omega)), if_neg (by decide), if_pos (by decide)]
theorem M_word (hr : rd < 100000) (hc : c < 12) (h1 : rn c = nI d) (h2 : av c = nI a) (hd : d < 20) (h3 : mz d = nI z) (h4 : ms d = nI s) (haz : a < z) (hsz : s + z ≤ 200) : fnX12_go_4 ms mz kd wt (g + 1) 1 (nI rd) k h mem ou outs rn av (nI (c + 1)) ml mc ow lp s0 flt = bd15 (mstep ms mz kd wt k h mem ou outs rn (upd av c (nI (a + 1))) (nI (c + 1)) ml mc ow lp s0 flt (kd (s + a)) (wt (s + a)) (nI d) (nI a)) fun r k h mem ou outs rn av dp ml mc ow lp st flt => fnX12_go_4 ms mz kd wt g r (nI (rd + 1)) k h mem ou outs rn av dp ml mc ow lp st flt := by
  rw [fnX12_go_4, if_neg (lL_f 100000 100000 (by omega)), if_neg (by decide), if_neg (lR_f 0 0 (by omega)), show nI (c + 1) - 1 = nI c from pk_sub (a := c + 1) (b := 1) (by omega), ga_n hc (by omega), bd1_s, ga_n hc (by omega), bd1_s, h1, h2, ga_n hd (by omega), bd1_s, h3, if_neg (fun y => absurd ((nI_eq (by omega) (by omega)).mp y) (by omega)), nI_1, sa_n hc (by omega), bd1_s]
  unfold fnX12_kindAt mstep fnX12_go_193 fnX12_go_194
  rw [ga_n hd (by omega), bd1_s, h4, nI_add, ga_n (by omega) (by omega), bd1_s, bd1_s, bd1_s, nI_add, ga_n (by omega) (by omega), bd1_s, nI_1]
  by_cases k0 : kd (s + a) = 0
  · rw [if_pos k0, if_pos k0, bd5_15]; rfl
  · rw [if_neg k0, if_neg k0]
    by_cases k1 : kd (s + a) = 1
    · rw [if_pos k1, if_pos k1, bd8_15]; rfl
    · rw [if_neg k1, if_neg k1]
      by_cases k2 : kd (s + a) = 2
      · rw [if_pos k2, if_pos k2, bd12_15]; rfl
      · rw [if_neg k2, if_neg k2, bd6_15]; rfl
theorem M_end (hr : rd < 100000) (hc : c < 12) (h1 : rn c = nI d) (h2 : av c = nI a) (hd : d < 20) (h3 : mz d = nI a) (hst : st ≤ 1000) {dp' lp' : Int32} (hl : fnX12_leave (nI (c + 1)) ow lp = some (dp', lp')) : fnX12_go_4 ms mz kd wt (g + 1) 1 (nI rd) k h mem ou outs rn av (nI (c + 1)) ml mc ow lp (nI st) flt = if st < 1000 then fnX12_go_4 ms mz kd wt g 1 (nI (rd + 1)) k h mem ou outs rn av dp' ml mc ow lp' (nI (st + 1)) flt else fnX12_go_4 ms mz kd wt g 0 (nI (rd + 1)) k h mem ou outs rn av (nI (c + 1)) ml mc ow lp (nI st) 8 := by
  rw [fnX12_go_4, if_neg (lL_f 100000 100000 (by omega)), if_neg (by decide), if_neg (lR_f 0 0 (by omega)), show nI (c + 1) - 1 = nI c from pk_sub (a := c + 1) (b := 1) (by omega), ga_n hc (by omega), bd1_s, ga_n hc (by omega), bd1_s, h1, h2, ga_n hd (by omega), bd1_s, h3, if_pos rfl]
  unfold fnX12_go_75 fnX12_go_80 fnX12_go_194 fnX12_stop
  by_cases hs : st < 1000
  · rw [if_pos (sR_t 1000 1000 hs), if_pos hs, if_neg (by decide), hl, bd2_s, nI_1, nI_1]
  · rw [if_neg (sR_f 1000 1000 hs), if_neg hs, bd2_s, if_pos rfl, if_pos rfl, nI_1]
/-- what the running comes to -/
def SIM (X : Option T15) (Y : Option M15) : Prop :=
  ∃ (F lo b n st : Nat) (lc ll ce en re lb v la k mem ou rn av ml mc ow : Nat → Int32) (pl co : Int32), X = some (nI F, lc, ll, nI lo, ce, en, re, lb, nI b, pl, nI st, v, nI n, la, co) ∧ Y = some (if F = 0 then 1 else 0, k, nI n, mem, ou, co, rn, av, nI b, ml, mc, ow, nI lo, nI st, nI F) ∧ F ≤ 8 ∧ lo ≤ 12 ∧ st ≤ 1000 ∧ DR v k ce mem la ou co n ∧ (F = 0 → b = 0 ∧ lo = 0)
theorem phi_60 (hK : DK ds ops args ms mz kd wt S sz) {b : Nat} (hF : FR kd wt S sz b lo dd aa L en re lb rn av ow pl) : phi kd wt S b dd aa ≤ 60 := by
  unfold phi
  by_cases hb : b = 0
  · rw [if_pos hb]; omega
  · rw [if_neg hb]
    obtain ⟨g1, g2, -⟩ := hF.2.2.2.2.1 (b - 1) (by omega)
    obtain ⟨-, -, -, h60, -⟩ := hK.2.2 (dd (b - 1)) g1
    exact Nat.le_trans (nsc_mono (aa (b - 1)) (S (dd (b - 1))) _ g2) h60
theorem run_sim (hK : DK ds ops args ms mz kd wt S sz) : ∀ (m b lo n st tn rd f g : Nat) (dd aa L : Nat → Nat) (lc ll ce en re lb v la k mem ou rn av ml mc ow : Nat → Int32) (pl co : Int32), FR kd wt S sz b lo dd aa L en re lb rn av ow pl → DR v k ce mem la ou co n → Ag lc mc lo → Ag ll ml lo → st ≤ 1000 → (1000 - st) * 61 + phi kd wt S b dd aa < m → m + 1 < f → m + 1 < g → tn + m < 201201 → rd + m < 100000 → SIM (fnX5_obey_10 ops args ds f 0 (nI tn) lc ll (nI lo) ce en re lb (nI b) pl (nI st) v (nI n) la co) (fnX12_go_4 ms mz kd wt g 1 (nI rd) k (nI n) mem ou co rn av (nI b) ml mc ow (nI lo) (nI st) 0) := by
  intro m
  induction m with
  | zero => intro b lo n st tn rd f g dd aa L lc ll ce en re lb v la k mem ou rn av ml mc ow pl co _ _ _ _ _ h; omega
  | succ m ih =>
    intro b lo n st tn rd f g dd aa L lc ll ce en re lb v la k mem ou rn av ml mc ow pl co hF hD hA hB hst hm hf hg ht hr
    obtain ⟨f, rfl⟩ : ∃ f', f = f' + 1 := ⟨f - 1, by omega⟩
    obtain ⟨g, rfl⟩ : ∃ g', g = g' + 1 := ⟨g - 1, by omega⟩
    by_cases hb0 : b = 0
    · subst hb0
      have e0 : lo = 0 := by rw [← hF.2.2.2.1]; exact hF.2.2.1
      exact ⟨0, lo, 0, n, st, lc, ll, ce, en, re, lb, v, la, k, mem, ou, rn, av, ml, mc, ow, pl, co, C_done (by omega), M_done (by omega), by omega, hF.2.1, hst, hD, fun _ => ⟨rfl, e0⟩⟩
    · obtain ⟨c, rfl⟩ : ∃ c, b = c + 1 := ⟨b - 1, by omega⟩
      have hc := hF.1
      obtain ⟨g1, g2, g3, g4, g5, g6, g7, g8⟩ := hF.2.2.2.2.1 c (by omega)
      have hpl : pl = nI (S (dd c) + aa c) := hF.2.2.2.2.2.2 (by omega)
      obtain ⟨k1, k2, k3, k4, k5⟩ := hK.2.2 (dd c) g1
      have hS2 := (hK.2.1 (dd c + 1) (by omega)).2
      have hsz := hK.1
      have key : ∀ (CW : Option T15) (MW : Option M15), WSim kd wt S sz CW MW st (phi kd wt S (c + 1) dd aa) 0 → SIM (bd15 CW fun r lc ll lo ce en re lb b pl st v n la co => fnX5_obey_10 ops args ds f r (nI (tn + 1)) lc ll lo ce en re lb b pl st v n la co) (bd15 MW fun r k h mem ou outs rn av dp ml mc ow lp st flt => fnX12_go_4 ms mz kd wt g r (nI (rd + 1)) k h mem ou outs rn av dp ml mc ow lp st flt) := by
        intro CW MW hW
        rcases hW with ⟨F, lo', b', n', lc', ll', ce', en', re', lb', v', la', k', mem', ou', rn', av', ml', mc', ow', pl', co', w1, w2, w3, w4, w5, w6⟩ | ⟨lo', b', n', st', dd', aa', L', lc', ll', ce', en', re', lb', v', la', k', mem', ou', rn', av', ml', mc', ow', pl', co', w3, w4, w5, w6, w7, w8, w9⟩
        · rw [w3, w4, bd15_s, bd15_s]
          obtain ⟨f, rfl⟩ : ∃ f', f = f' + 1 := ⟨f - 1, by omega⟩
          obtain ⟨g, rfl⟩ : ∃ g', g = g' + 1 := ⟨g - 1, by omega⟩
          exact ⟨F, lo', b', n', st, lc', ll', ce', en', re', lb', v', la', k', mem', ou', rn', av', ml', mc', ow', pl', co', C_fault (by omega) w2, by rw [M_fault, if_neg (by omega)], w2, w5, hst, w6, fun z => absurd z (by omega)⟩
        · rw [w3, w4, bd15_s, bd15_s]
          have h60 := phi_60 hK w5
          refine ih b' lo' n' st' (tn + 1) (rd + 1) f g dd' aa' L' lc' ll' ce' en' re' lb' v' la' k' mem' ou' rn' av' ml' mc' ow' pl' co' w5 w6 w7 w8 ?_ ?_ (by omega) (by omega) (by omega) (by omega)
          · rcases w9 with w9 | w9 <;> omega
          · rcases w9 with w9 | w9
            · rw [w9.2]; omega
            · rw [w9.1]; omega
      by_cases hq : S (dd c) + aa c < S (dd c + 1)
      · rw [hpl, C_word (by omega) (by omega) g5 hq hS2, M_word (by omega) (by omega) g3 g4 (by omega) k3 k2 (by omega) (by omega)]
        exact key _ _ (word_sim hK hF hD hA hB hst hq)
      · have e1 : S (dd c) + aa c = S (dd c + 1) := by omega
        rw [hpl, e1, C_end (by omega) (by omega) g5 hS2, M_end (by omega) (by omega) g3 (by rw [g4, show aa c = S (dd c + 1) - S (dd c) by omega]) (by omega) k3 hst (pX12_leave hF)]
        have hcf := cfl_gen (o := 51) (st := st) (n := n) (b := c + 1) (lo := lo) (top := tp v n 0) (by decide) (by decide) (by decide) (by decide) (by decide)
        rw [if_pos (show tkN 51 ≤ n from Nat.zero_le n), if_pos (show n - tkN 51 + gvN 51 ≤ 32 from hD.1)] at hcf
        have hc1 := FR_le hF (show c ≤ c + 1 by omega) (Nat.le_refl _)
        have h41 := hF.2.2.2.1
        by_cases hs : st < 1000
        · rw [if_pos hs] at hcf
          rw [if_pos hs]
          have e2 := dw_G (ds := ds) (lc := lc) (ll := ll) (ce := ce) (la := la) (co := co) (x := 0) (o := 51) (by omega) (by omega) (by omega) (by omega) (by omega) hD.1 hF.2.1 hF.1 hst hcf (k_leave (lc := lc) (ll := ll) (ds := ds) (x := 0) (v := v) (h := nI n) (en := en) (Or.inr rfl) (pX5_leave (pl2 := nI (S (dd c + 1) + 1)) hF))
          exact key _ (some (1, k, nI n, mem, ou, co, rn, av, nI c, ml, mc, ow, nI (L c), nI (st + 1), 0)) (Or.inr ⟨L c, c, n, st + 1, dd, aa, L, lc, ll, ce, en, re, lb, v, la, k, mem, ou, rn, av, ml, mc, ow, _, co, e2, rfl, FR_leave hF, hD, Ag_le hA (by omega), Ag_le hB (by omega), Or.inl ⟨hs, rfl⟩⟩)
        · rw [if_neg hs] at hcf
          rw [if_neg hs]
          have e2 := dw_F (ds := ds) (lc := lc) (ll := ll) (ce := ce) (en := en) (re := re) (lb := lb) (la := la) (co := co) (x := 0) (o := 51) (pl := nI (S (dd c + 1) + 1)) (by omega) (by omega) (by omega) (by omega) hD.1 hF.2.1 hF.1 hst hcf (by omega)
          exact key _ (some (0, k, nI n, mem, ou, co, rn, av, nI (c + 1), ml, mc, ow, nI lo, nI st, 8)) (Or.inl ⟨8, lo, c + 1, n, lc, ll, ce, en, re, lb, v, la, k, mem, ou, rn, av, ml, mc, ow, _, co, by omega, by omega, e2, rfl, hF.2.1, hD⟩)
end
