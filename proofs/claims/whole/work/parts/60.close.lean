/-! a definition's end, and its words -/
section
variable {keys names : Nat → Int64} {ds ops args ms mz kd wt wa op : Nat → Int32} {S : Nat → Nat} {sz m : Nat}
theorem WQ_PA {x s d : Nat} {a0 args' : Nat → Int32} (h : WQ kd wt ops a0 d x) (hP : PA kd wt s a0 args') : WQ kd wt ops args' d x := by
  rcases h with ⟨h1, h2, h3⟩ | ⟨h1, j, h2, h3, h4⟩ | ⟨h1, e, h2, h3, h4, h5⟩ | ⟨h1, c, h2, h3, h4, h5⟩
  · exact Or.inl ⟨h1, h2, by rw [hP x (Or.inr (Or.inl (by rw [h1]; decide)))]; exact h3⟩
  · exact Or.inr (Or.inl ⟨h1, j, h2, h3, h4⟩)
  · exact Or.inr (Or.inr (Or.inl ⟨h1, e, h2, h3, h4, by rw [hP x (Or.inr (Or.inl (by rw [h1]; decide)))]; exact h5⟩))
  · exact Or.inr (Or.inr (Or.inr ⟨h1, c, h2, h3, h4, fun z => by rw [hP x (Or.inr (Or.inr (by rw [h3, z])))]; exact h5 z⟩))
theorem link_sim {s n d : Nat} {o l : Int32} (hn : s + n ≤ 200) (hW : ∀ q, q < n → WQ kd wt ops args d (s + q)) (h60 : nsc kd wt n s ≤ 60) : ∃ (R : Int32) (args' wa' op' : Nat → Int32) (o' l' : Int32), fnX2_link ops args wa o l (nI s) (nI (s + n)) = some (R, args', wa', o', l') ∧ fnX12_balanced kd wt op (nI s) (nI n) = some (R, op') ∧ PA kd wt s args args' ∧ (R = 0 ∨ (R = 1 ∧ BD kd wt ops args' s n d)) := by
  have hL : LI kd wt s args wa op (fun _ => 0) (fun _ => 0) (fun _ => 0) 0 := by
    refine ⟨fun r hr => ?_, fun p hp => absurd hp (by omega), rfl, rfl, fun i hi => absurd hi (Nat.not_lt_zero i), fun p hp => absurd hp (by omega)⟩
    rw [show r = 0 by omega]; exact Nat.zero_le 8
  obtain ⟨R, args', wa', op', o', l', a1, a2, a3, a4⟩ := link_loop (ops := ops) (a0 := args) hn (fun q hq => WQ_WP (hW q hq)) n 0 fuel_ fuel_ args wa op (fun _ => 0) (fun _ => 0) (fun _ => 0) (by omega) (by unfold fuel_; omega) (by unfold fuel_; omega) hL (fun _ _ => rfl)
  refine ⟨R, args', wa', op', o', l', a1, a2, a3, ?_⟩
  rcases a4 with a4 | ⟨b1, b2, wa2, op2, W, Cc, M, c1, c2, c3, c4, c5, c6⟩
  · exact Or.inl a4
  · refine Or.inr ⟨b1, fun q hq => WQ_PA (hW q hq) a3, c1, c2, fun p hp => ?_, h60⟩
    obtain ⟨g1, g2, g3, g4⟩ := c6 p hp
    have nw : ¬ ∃ i, i < Dn kd wt s n ∧ W i = p := by
      rintro ⟨i, hi, -⟩
      omega
    exact ⟨fun z => (g1 z).imp id nw, fun z => (g2 z).imp id nw, g3, g4⟩
/-- the semicolon -/
theorem close_sim (hD : DI keys names ds ops args ms mz kd wt S sz) {v : Int64} (hv : NK v) (hm : m ≤ 150) (hW : ∀ q, q < m → S sz + q < 200 → WQ kd wt ops args sz (S sz + q)) (h60 : nsc kd wt m (S sz) ≤ 60) {o l : Int32} {Ft Fg Fh : Nat → Int32} {nw pl : Int32} {k : Nat} :
    ∃ (F sz' : Nat) (S' : Nat → Nat) (args' ds' ms' mz' wa' op' : Nat → Int32) (keys' names' : Nat → Int64) (o' l' y : Int32), F ≤ 9 ∧ fnX1_closeBody ops args keys ds (nI sz) (nI m) wa o l v = some (nI F, args', keys', ds', nI sz', wa', o', l') ∧
      (if nI sz = (20 : Int32) then fnX12_define_176 Ft Fg Fh nw v (nI (S sz)) (nI m) (nI k) names ms mz (nI sz) kd wt op 0 pl
        else if (nI (S sz) + nI m) ≤ (200 : Int32) then
          bd2 (fnX12_balanced kd wt op (nI (S sz)) (nI m)) fun r_18 Mo_open_18 =>
            if r_18 = 0 then fnX12_define_201 Ft Fg Fh nw v (nI (S sz)) (nI m) (nI k) names ms mz (nI sz) kd wt Mo_open_18 (2 : Int32) pl
            else fnX12_define_201 Ft Fg Fh nw v (nI (S sz)) (nI m) (nI k) names ms mz (nI sz) kd wt Mo_open_18 0 pl
        else fnX12_define_176 Ft Fg Fh nw v (nI (S sz)) (nI m) (nI k) names ms mz (nI sz) kd wt op 0 pl) = some (y, names', ms', mz', nI sz', kd, wt, op', nI F, pl) ∧
      DI keys' names' ds' ops args' ms' mz' kd wt S' sz' ∧ (F = 0 → y = nI (k + 1)) := by
  have hsz := hD.1
  have hS := hD.2.2.1 sz (Nat.le_refl sz)
  have hst : fnX1_startOf ds (nI sz) = some (nI (S sz)) := by
    unfold fnX1_startOf
    rw [if_neg (nI_pos (by omega)), if_neg (lL_f 21 21 (by omega)), ga_n (by omega) (by omega), bd1_s, hS.1]
  unfold fnX1_closeBody fnX12_define_176
  rw [hst, bd1_s, if_neg (nI_pos (by omega)), nI_add]
  have f9 : ∀ (op2 : Nat → Int32) (F : Nat), 1 ≤ F → F ≤ 9 → fnX12_define_201 Ft Fg Fh nw v (nI (S sz)) (nI m) (nI k) names ms mz (nI sz) kd wt op2 (nI F) pl = some (-1, names, ms, mz, nI sz, kd, wt, op2, nI F, pl) := by
    intro op2 F h1 h2
    unfold fnX12_define_201
    rw [if_neg (lR_f 0 0 (by omega))]
  by_cases h20 : sz = 20
  · rw [if_pos (lL_t 20 20 (by omega)), if_pos (by rw [h20]; rfl)]
    exact ⟨9, sz, S, args, ds, ms, mz, wa, op, keys, names, o, l, -1, by omega, rfl, f9 op 9 (by omega) (by omega), hD, fun z => absurd z (by omega)⟩
  · rw [if_neg (lL_f 20 20 (by omega)), if_neg (ne_L 20 20 h20)]
    by_cases h200 : S sz + m ≤ 200
    · rw [if_pos (lR_t 200 200 h200), if_pos (lR_t 200 200 h200)]
      obtain ⟨R, args', wa', op', o', l', a1, a2, a3, a4⟩ := link_sim (wa := wa) (op := op) (o := o) (l := l) h200 (fun q hq => hW q hq (by omega)) h60
      rw [a1, a2, bd5_s, bd2_s]
      have hD' : DI keys names ds ops args' ms mz kd wt S sz := DI_cg hD (fun x hx => ⟨rfl, rfl, rfl, a3 x (Or.inl hx)⟩)
      rcases a4 with a4 | ⟨a4, a5⟩
      · rw [if_pos a4, if_pos a4]
        exact ⟨2, sz, S, args', ds, ms, mz, wa', op', keys, names, o', l', -1, by omega, rfl, f9 op' 2 (by omega) (by omega), hD', fun z => absurd z (by omega)⟩
      · rw [if_neg (by rw [a4]; decide), if_neg (by rw [a4]; decide), sl_n (by omega) (by omega), bd1_s, nI_1, sa_n (by omega) (by omega), bd1_s]
        refine ⟨0, sz + 1, _, args', _, _, _, wa', op', _, _, o', l', nI (k + 1), by omega, rfl, ?_, DI_add hD' (by omega) h200 hv a5, fun _ => rfl⟩
        unfold fnX12_define_201
        rw [if_pos (by decide), sl_n (by omega) (by omega), bd1_s, sa_n (by omega) (by omega), bd1_s, sa_n (by omega) (by omega), bd1_s, nI_1, nI_1]; rfl
    · rw [if_neg (lR_f 200 200 h200), if_neg (lR_f 200 200 h200)]
      exact ⟨9, sz, S, args, ds, ms, mz, wa, op, keys, names, o, l, -1, by omega, rfl, f9 op 9 (by omega) (by omega), hD, fun z => absurd z (by omega)⟩
/-- a word is added, class -/
theorem X1_add (hD : DI keys names ds ops args ms mz kd wt S sz) (hm : m ≤ 150) {o a : Int32} : fnX1_addWord ops args ds (nI sz) (nI m) o a = some (if S sz + m < 200 then upd ops (S sz + m) o else ops, if S sz + m < 200 then upd args (S sz + m) a else args, nI (m + 1)) := by
  have hsz := hD.1
  have hS := hD.2.2.1 sz (Nat.le_refl sz)
  unfold fnX1_addWord fnX1_startOf fnX0_set
  rw [if_neg (nI_pos (by omega)), if_neg (lL_f 21 21 (by omega)), ga_n (by omega) (by omega), bd1_s, bd1_s, hS.1, nI_add, if_neg (nI_pos (by omega))]
  by_cases h : S sz + m < 200
  · rw [if_neg (lL_f 200 200 (by omega)), sa_n h (by omega), bd1_s, sa_n h (by omega), bd1_s, bd2_s, if_pos h, if_pos h, nI_1]
  · rw [if_pos (lL_t 200 200 (by omega)), bd2_s, if_neg h, if_neg h, nI_1]
/-- a word is added, reference: kind kk, what ww -/
theorem X12_entry {tx F G : Nat → Int32} {x : Nat} (hx : x < 350) {k : Int32} {v : Int64} {kk : Nat} {ww : Int32} (hw : (kk = 0 ∧ fnX12_number tx F G k = some ww) ∨ (kk = 1 ∧ fnX12_plain v = some ww) ∨ (kk = 2 ∧ fnX12_control v = some ww) ∨ (kk = 3 ∧ fnX12_meant names (nI sz) v = some ww)) : fnX12_entry_41 tx F G names (nI sz) k v (nI x) (nI x) (nI kk) kd wt = some (if 0 ≤ ww ∨ kk = 0 then 1 else 0, upd kd x (nI kk), upd wt x ww) := by
  have e107 : fnX12_entry_107 tx F G names (nI sz) (nI x) (nI x) ww (upd kd x (nI kk)) wt = some (if 0 ≤ ww ∨ kk = 0 then 1 else 0, upd kd x (nI kk), upd wt x ww) := by
    unfold fnX12_entry_107
    rw [sa_n hx (by omega), bd1_s, ga_n hx (by omega), bd1_s, pk_us]
    by_cases h1 : 0 ≤ ww
    · rw [if_pos h1, if_pos (Or.inl h1)]
    · rw [if_neg h1, ga_n hx (by omega), bd1_s, pk_us]
      by_cases h2 : kk = 0
      · rw [if_pos (by rw [h2]; rfl), if_pos (Or.inr h2)]
      · rw [if_neg (ne_L 0 0 h2 rfl (by decide) (by omega)), if_neg (fun z => z.elim h1 h2)]
  unfold fnX12_entry_41
  rw [sa_n hx (by omega), bd1_s, ga_n hx (by omega), bd1_s, pk_us]
  rcases hw with ⟨rfl, h⟩ | ⟨rfl, h⟩ | ⟨rfl, h⟩ | ⟨rfl, h⟩
  · rw [if_pos (by decide), h, bd1_s]; exact e107
  · rw [if_neg (by decide), bd1_s, if_pos (by decide), h, bd1_s]; exact e107
  · rw [if_neg (by decide), bd1_s, if_neg (by decide), bd1_s, if_pos (by decide), h, bd1_s]; exact e107
  · rw [if_neg (by decide), bd1_s, if_neg (by decide), bd1_s, if_neg (by decide), h, bd1_s]; exact e107
theorem nsc_snoc : ∀ (l x : Nat), nsc kd wt (l + 1) x = nsc kd wt l x + nst kd wt (x + l) := by
  intro l
  induction l with
  | zero => intro x; show nst kd wt x + 0 = 0 + nst kd wt (x + 0); rw [Nat.add_zero, Nat.add_zero, Nat.zero_add]
  | succ l ih =>
    intro x
    show nst kd wt x + nsc kd wt (l + 1) (x + 1) = nst kd wt x + nsc kd wt l (x + 1) + nst kd wt (x + (l + 1))
    rw [ih, show x + 1 + l = x + (l + 1) by omega]
    omega
end
