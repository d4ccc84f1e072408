/-! the body's structure: link and balanced -/
/-- the structures that are open before word q -/
def Dn (kd wt : Nat → Int32) (s : Nat) : Nat → Nat
  | 0 => 0
  | q + 1 => if kd (s + q) = 2 ∧ (wt (s + q) = nI 0 ∨ wt (s + q) = nI 3 ∨ wt (s + q) = nI 8) then Dn kd wt s q + 1 else if kd (s + q) = 2 ∧ (wt (s + q) = nI 2 ∨ wt (s + q) = nI 4 ∨ wt (s + q) = nI 5 ∨ wt (s + q) = nI 7 ∨ wt (s + q) = nI 9) then Dn kd wt s q - 1 else Dn kd wt s q
section
variable {kd wt : Nat → Int32} {s q c : Nat}
theorem Dn_k (hk : kd (s + q) ≠ 2) : Dn kd wt s (q + 1) = Dn kd wt s q := by
  show (if _ then _ else if _ then _ else _) = _
  rw [if_neg (fun z => hk z.1), if_neg (fun z => hk z.1)]
theorem Dn_s (h : isC kd wt (s + q) c) (hc : c < 13) : Dn kd wt s (q + 1) = if c = 0 ∨ c = 3 ∨ c = 8 then Dn kd wt s q + 1 else if c = 2 ∨ c = 4 ∨ c = 5 ∨ c = 7 ∨ c = 9 then Dn kd wt s q - 1 else Dn kd wt s q := by
  show (if kd (s + q) = 2 ∧ (wt (s + q) = nI 0 ∨ wt (s + q) = nI 3 ∨ wt (s + q) = nI 8) then Dn kd wt s q + 1 else if kd (s + q) = 2 ∧ (wt (s + q) = nI 2 ∨ wt (s + q) = nI 4 ∨ wt (s + q) = nI 5 ∨ wt (s + q) = nI 7 ∨ wt (s + q) = nI 9) then Dn kd wt s q - 1 else Dn kd wt s q) = _
  have e : ∀ k, k < 13 → (wt (s + q) = nI k ↔ c = k) := fun k hk => by rw [h.2]; exact nI_eq (by omega) (by omega)
  simp only [e 0 (by omega), e 3 (by omega), e 8 (by omega), e 2 (by omega), e 4 (by omega), e 5 (by omega), e 7 (by omega), e 9 (by omega), h.1, true_and]
theorem isC_ne {a b : Nat} (ha : a < 20) (hb : b < 20) (h1 : isC kd wt q a) (hn : a ≠ b) : ¬ isC kd wt q b := fun h2 => hn (isC_inj ha hb h1 h2)
theorem DS_n (h : kd (s + q) = 2 → ∃ c, c < 13 ∧ wt (s + q) = nI c) (hcl : clQ kd wt (s + q) → 1 ≤ Dn kd wt s q) : DS kd wt s (Dn kd wt s) q := by
  unfold DS
  by_cases hk : kd (s + q) = 2
  · obtain ⟨c, hc, hw⟩ := h hk
    have hC : isC kd wt (s + q) c := ⟨hk, hw⟩
    have e := Dn_s hC hc
    have op_iff : opQ kd wt (s + q) ↔ (c = 0 ∨ c = 3 ∨ c = 8) := by
      constructor
      · rintro (z | z | z)
        · exact Or.inl (isC_inj (by omega) (by omega) hC z)
        · exact Or.inr (Or.inl (isC_inj (by omega) (by omega) hC z))
        · exact Or.inr (Or.inr (isC_inj (by omega) (by omega) hC z))
      · rintro (rfl | rfl | rfl)
        · exact Or.inl hC
        · exact Or.inr (Or.inl hC)
        · exact Or.inr (Or.inr hC)
    have cl_iff : clQ kd wt (s + q) ↔ (c = 2 ∨ c = 4 ∨ c = 5 ∨ c = 7 ∨ c = 9) := by
      constructor
      · rintro (z | z | z | z | z) <;> have := isC_inj (by omega) (by omega) hC z <;> omega
      · rintro (rfl | rfl | rfl | rfl | rfl)
        · exact Or.inl hC
        · exact Or.inr (Or.inl hC)
        · exact Or.inr (Or.inr (Or.inl hC))
        · exact Or.inr (Or.inr (Or.inr (Or.inl hC)))
        · exact Or.inr (Or.inr (Or.inr (Or.inr hC)))
    refine ⟨fun z => ?_, fun z => ?_, fun z1 z2 => ?_⟩
    · rw [e, if_pos (op_iff.mp z)]
    · have h1 := hcl z
      have z' := cl_iff.mp z
      rw [e, if_neg (by omega), if_pos z']
      omega
    · rw [e, if_neg (fun y => z1 (op_iff.mpr y)), if_neg (fun y => z2 (cl_iff.mpr y))]
  · refine ⟨fun z => ?_, fun z => ?_, fun _ _ => Dn_k hk⟩
    · rcases z with z | z | z <;> exact absurd z.1 hk
    · rcases z with z | z | z | z | z <;> exact absurd z.1 hk
end
/-- the begin of a while that waits at w -/
def GW (kd wt : Nat → Int32) (s : Nat) (args : Nat → Int32) (q i w m : Nat) : Prop := ∃ g, g < w ∧ args (s + w) = nI (s + (g + 1)) ∧ Dn kd wt s g = i ∧ (∀ r, g < r → r ≤ q → i + 1 ≤ Dn kd wt s r) ∧ DLn kd wt s (g + 1) = m
theorem GW_mono {kd wt args args' : Nat → Int32} {s q i w m : Nat} (h : GW kd wt s args q i w m) (hd : i + 1 ≤ Dn kd wt s (q + 1)) (ha : args' (s + w) = args (s + w)) : GW kd wt s args' (q + 1) i w m := by
  obtain ⟨g, a1, a2, a3, a4, a5⟩ := h
  refine ⟨g, a1, ha.trans a2, a3, fun r r1 r2 => ?_, a5⟩
  by_cases e : r = q + 1
  · subst e; exact hd
  · exact a4 r r1 (by omega)
/-- a waiting word, level i -/
def LV (kd wt : Nat → Int32) (s : Nat) (args wa op : Nat → Int32) (W Cc M : Nat → Nat) (q i : Nat) : Prop :=
  wa i = nI (s + W i) ∧ op i = nI (Cc i) ∧ W i < q ∧ isC kd wt (s + W i) (Cc i) ∧ (Cc i = 0 ∨ Cc i = 1 ∨ Cc i = 3 ∨ Cc i = 6 ∨ Cc i = 8) ∧ Dn kd wt s (W i + 1) = i + 1 ∧ (∀ r, W i < r → r ≤ q → i + 1 ≤ Dn kd wt s r) ∧ (∀ r, W i < r → r < q → Dn kd wt s r = i + 1 → ¬ isC kd wt (s + r) 1) ∧ DLn kd wt s (W i) = M i ∧ M (i + 1) = M i + (if Cc i = 8 then 1 else 0) ∧ (Cc i = 6 → GW kd wt s args q i (W i) (M i))
def IFok (kd wt : Nat → Int32) (s : Nat) (args : Nat → Int32) (q p : Nat) : Prop := ∃ r, p < r ∧ r < q ∧ Dn kd wt s r = Dn kd wt s (p + 1) ∧ (isC kd wt (s + r) 1 ∨ clQ kd wt (s + r)) ∧ (∀ x, p < x → x ≤ r → Dn kd wt s (p + 1) ≤ Dn kd wt s x) ∧ (∀ x, p < x → x < r → ¬ (Dn kd wt s x = Dn kd wt s (p + 1) ∧ isC kd wt (s + x) 1)) ∧ args (s + p) = nI (s + (r + 1)) ∧ DLn kd wt s (r + 1) = DLn kd wt s p
def FWok (kd wt : Nat → Int32) (s : Nat) (args : Nat → Int32) (q p : Nat) : Prop := ∃ r, p < r ∧ r < q ∧ Dn kd wt s r = Dn kd wt s (p + 1) ∧ clQ kd wt (s + r) ∧ (∀ x, p < x → x ≤ r → Dn kd wt s (p + 1) ≤ Dn kd wt s x) ∧ args (s + p) = nI (s + (r + 1)) ∧ DLn kd wt s (r + 1) = DLn kd wt s p
def BKok (kd wt : Nat → Int32) (s : Nat) (args : Nat → Int32) (p : Nat) : Prop := ∃ r, r < p ∧ Dn kd wt s r + 1 = Dn kd wt s p ∧ (∀ x, r < x → x ≤ p → Dn kd wt s p ≤ Dn kd wt s x) ∧ args (s + p) = nI (s + (r + 1)) ∧ DLn kd wt s (r + 1) = DLn kd wt s p
/-- word p leads where it must, or waits -/
def JW (kd wt : Nat → Int32) (s : Nat) (args : Nat → Int32) (q : Nat) (wait : Prop) (p : Nat) : Prop :=
  (isC kd wt (s + p) 0 → IFok kd wt s args q p ∨ wait) ∧ (isC kd wt (s + p) 1 ∨ isC kd wt (s + p) 6 → FWok kd wt s args q p ∨ wait) ∧ (isC kd wt (s + p) 4 ∨ isC kd wt (s + p) 5 ∨ isC kd wt (s + p) 7 ∨ isC kd wt (s + p) 9 → BKok kd wt s args p) ∧ (isC kd wt (s + p) 9 ∨ isC kd wt (s + p) 10 → 1 ≤ DLn kd wt s p)
def LI (kd wt : Nat → Int32) (s : Nat) (args wa op : Nat → Int32) (W Cc M : Nat → Nat) (q : Nat) : Prop :=
  (∀ r, r ≤ q → Dn kd wt s r ≤ 8) ∧ (∀ p, p < q → DS kd wt s (Dn kd wt s) p) ∧ M 0 = 0 ∧ DLn kd wt s q = M (Dn kd wt s q) ∧ (∀ i, i < Dn kd wt s q → LV kd wt s args wa op W Cc M q i) ∧ (∀ p, p < q → JW kd wt s args q (∃ i, i < Dn kd wt s q ∧ W i = p) p)
section
variable {kd wt args args' wa wa' op op' : Nat → Int32} {s q i p c : Nat} {W Cc M W' Cc' M' : Nat → Nat}
theorem JW_mono {w w' : Prop} (h : JW kd wt s args q w p) (ha : args' (s + p) = args (s + p)) (hw : w → w') : JW kd wt s args' (q + 1) w' p := by
  obtain ⟨h1, h2, h3, h4⟩ := h
  refine ⟨fun z => ?_, fun z => ?_, fun z => ?_, h4⟩
  · rcases h1 z with ⟨r, a1, a2, a3, a4, a5, a6, a7, a8⟩ | y
    · exact Or.inl ⟨r, a1, by omega, a3, a4, a5, a6, ha.trans a7, a8⟩
    · exact Or.inr (hw y)
  · rcases h2 z with ⟨r, a1, a2, a3, a4, a5, a7, a8⟩ | y
    · exact Or.inl ⟨r, a1, by omega, a3, a4, a5, ha.trans a7, a8⟩
    · exact Or.inr (hw y)
  · obtain ⟨r, a1, a2, a3, a4, a5⟩ := h3 z
    exact ⟨r, a1, a2, a3, ha.trans a4, a5⟩
theorem LV_mono (h : LV kd wt s args wa op W Cc M q i) (hd : i + 1 ≤ Dn kd wt s (q + 1)) (he : ¬ (Dn kd wt s q = i + 1 ∧ isC kd wt (s + q) 1)) (ha : Cc i = 6 → args' (s + W i) = args (s + W i)) (h1 : wa' i = wa i) (h2 : op' i = op i) (h3 : W' i = W i) (h4 : Cc' i = Cc i) (h5 : M' i = M i) (h6 : M' (i + 1) = M (i + 1)) : LV kd wt s args' wa' op' W' Cc' M' (q + 1) i := by
  obtain ⟨g1, g2, g3, g4, g5, g6, g7, g8, g9, g10, g11⟩ := h
  unfold LV
  rw [h1, h2, h3, h4, h5, h6]
  refine ⟨g1, g2, by omega, g4, g5, g6, fun r r1 r2 => ?_, fun r r1 r2 r3 => ?_, g9, g10, fun z => GW_mono (g11 z) hd (ha z)⟩
  · by_cases e : r = q + 1
    · subst e; exact hd
    · exact g7 r r1 (by omega)
  · by_cases e : r = q
    · subst e; exact fun y => he ⟨r3, y⟩
    · exact g8 r r1 (by omega) r3
theorem LI_plain (h : LI kd wt s args wa op W Cc M q) (hd : Dn kd wt s (q + 1) = Dn kd wt s q) (hl : DLn kd wt s (q + 1) = DLn kd wt s q) (hs : DS kd wt s (Dn kd wt s) q) (he : ¬ isC kd wt (s + q) 1) (hj : ∀ w, JW kd wt s args (q + 1) w q) : LI kd wt s args wa op W Cc M (q + 1) := by
  obtain ⟨h1, h2, h3, h4, h5, h6⟩ := h
  refine ⟨fun r hr => ?_, fun p hp => ?_, h3, by rw [hl, hd]; exact h4, fun i hi => ?_, fun p hp => ?_⟩
  · by_cases e : r = q + 1
    · subst e; rw [hd]; exact h1 q (by omega)
    · exact h1 r (by omega)
  · by_cases e : p = q
    · subst e; exact hs
    · exact h2 p (by omega)
  · exact LV_mono (h5 i (by omega)) (by omega) (fun z => he z.2) (fun _ => rfl) rfl rfl rfl rfl rfl rfl
  · by_cases e : p = q
    · subst e; exact hj _
    · exact JW_mono (h6 p (by omega)) rfl (fun ⟨i, a, b⟩ => ⟨i, by omega, b⟩)
theorem LI_open (h : LI kd wt s args wa op W Cc M q) (hc : c = 0 ∨ c = 3 ∨ c = 8) (hq : isC kd wt (s + q) c) (h8 : Dn kd wt s q < 8) (hs : DS kd wt s (Dn kd wt s) q) : LI kd wt s args (upd wa (Dn kd wt s q) (nI (s + q))) (upd op (Dn kd wt s q) (nI c)) (upn W (Dn kd wt s q) q) (upn Cc (Dn kd wt s q) c) (upn M (Dn kd wt s q + 1) (M (Dn kd wt s q) + (if c = 8 then 1 else 0))) (q + 1) := by
  obtain ⟨h1, h2, h3, h4, h5, h6⟩ := h
  have hd : Dn kd wt s (q + 1) = Dn kd wt s q + 1 := by rw [Dn_s hq (by omega), if_pos hc]
  have hl : DLn kd wt s (q + 1) = DLn kd wt s q + (if c = 8 then 1 else 0) := by
    rw [DLn_s hq.1 hq.2 (by omega)]
    by_cases e : c = 8
    · rw [if_pos e, if_pos e]
    · rw [if_neg e, if_neg e, if_neg (by omega)]; rfl
  have he : ¬ isC kd wt (s + q) 1 := isC_ne (by omega) (by omega) hq (by omega)
  refine ⟨fun r hr => ?_, fun p hp => ?_, ?_, ?_, fun i hi => ?_, fun p hp => ?_⟩
  · by_cases e : r = q + 1
    · subst e; omega
    · exact h1 r (by omega)
  · by_cases e : p = q
    · subst e; exact hs
    · exact h2 p (by omega)
  · rw [upn_n _ _ (by omega)]; exact h3
  · rw [hl, hd, upn_s, h4]
  · by_cases e : i = Dn kd wt s q
    · subst e
      unfold LV
      rw [pk_us, pk_us, show upn W (Dn kd wt s q) q (Dn kd wt s q) = q from upn_s _ _ _, show upn Cc (Dn kd wt s q) c (Dn kd wt s q) = c from upn_s _ _ _, show upn M (Dn kd wt s q + 1) (M (Dn kd wt s q) + (if c = 8 then 1 else 0)) (Dn kd wt s q) = M (Dn kd wt s q) from upn_n _ _ (by omega), upn_s]
      refine ⟨rfl, rfl, by omega, hq, by omega, hd, fun r r1 r2 => ?_, fun r r1 r2 => by omega, h4, rfl, fun z => by omega⟩
      rw [show r = q + 1 by omega]; omega
    · exact LV_mono (h5 i (by omega)) (by omega) (fun z => he z.2) (fun _ => rfl) (pk_un e) (pk_un e) (upn_n _ _ e) (upn_n _ _ e) (upn_n _ _ (by omega)) (upn_n _ _ (by omega))
  · by_cases e : p = q
    · subst e
      refine ⟨fun _ => Or.inr ⟨Dn kd wt s p, by omega, upn_s _ _ _⟩, fun z => ?_, fun z => ?_, fun z => ?_⟩
      · rcases z with z | z <;> exact absurd (isC_inj (by omega) (by omega) hq z) (by omega)
      · rcases z with z | z | z | z <;> exact absurd (isC_inj (by omega) (by omega) hq z) (by omega)
      · rcases z with z | z <;> exact absurd (isC_inj (by omega) (by omega) hq z) (by omega)
    · exact JW_mono (h6 p (by omega)) rfl (fun ⟨i, a, b⟩ => ⟨i, by omega, by rw [upn_n _ _ (by omega)]; exact b⟩)
theorem LI_ne (h : LI kd wt s args wa op W Cc M q) {i j : Nat} (hi : i < Dn kd wt s q) (hj : j < Dn kd wt s q) (hne : j ≠ i) : W j ≠ W i := by
  intro e
  obtain ⟨-, -, -, -, -, a, -⟩ := h.2.2.2.2.1 i hi
  obtain ⟨-, -, -, -, -, b, -⟩ := h.2.2.2.2.1 j hj
  rw [e] at b
  omega
theorem LI_div (h : LI kd wt s args wa op W Cc M q) (hi : Dn kd wt s q = i + 1) (hC : Cc i ≠ 8) (hc : c = 1 ∨ c = 6) (hq : isC kd wt (s + q) c) (hs : DS kd wt s (Dn kd wt s) q) (ha : ∀ p, p < q → p ≠ W i → args' (s + p) = args (s + p)) (hJ : ∀ w, JW kd wt s args' (q + 1) w (W i)) (h6 : c = 6 → GW kd wt s args' q i q (M i)) : LI kd wt s args' (upd wa i (nI (s + q))) (upd op i (nI c)) (upn W i q) (upn Cc i c) M (q + 1) := by
  have hne := fun {j : Nat} (a : j < Dn kd wt s q) (b : j ≠ i) => LI_ne h (i := i) (by omega) a b
  obtain ⟨h1, h2, h3, h4, h5, h7⟩ := h
  have hd : Dn kd wt s (q + 1) = Dn kd wt s q := by rw [Dn_s hq (by omega), if_neg (by omega), if_neg (by omega)]
  have hl : DLn kd wt s (q + 1) = DLn kd wt s q := by rw [DLn_s hq.1 hq.2 (by omega), if_neg (by omega), if_neg (by omega)]
  obtain ⟨g1, g2, g3, g4, g5, g6, g7, g8, g9, g10, g11⟩ := h5 i (by omega)
  rw [if_neg hC] at g10
  refine ⟨fun r hr => ?_, fun p hp => ?_, h3, by rw [hl, hd]; exact h4, fun j hj => ?_, fun p hp => ?_⟩
  · by_cases e : r = q + 1
    · subst e; rw [hd]; exact h1 q (by omega)
    · exact h1 r (by omega)
  · by_cases e : p = q
    · subst e; exact hs
    · exact h2 p (by omega)
  · by_cases e : j = i
    · subst e
      unfold LV
      rw [pk_us, pk_us, show upn W j q j = q from upn_s _ _ _, show upn Cc j c j = c from upn_s _ _ _]
      refine ⟨rfl, rfl, by omega, hq, by omega, by omega, fun r r1 r2 => ?_, fun r r1 r2 => by omega, ?_, ?_, fun z => GW_mono (h6 z) (by omega) rfl⟩
      · rw [show r = q + 1 by omega]; omega
      · rw [h4, hi, g10]; omega
      · rw [g10, if_neg (by omega)]
    · have hjq := h5 j (by omega)
      exact LV_mono hjq (by omega) (fun z => by omega) (fun _ => ha _ hjq.2.2.1 (hne (by omega) e)) (pk_un e) (pk_un e) (upn_n _ _ e) (upn_n _ _ e) rfl rfl
  · by_cases e : p = q
    · subst e
      have hw : ∃ j, j < Dn kd wt s (p + 1) ∧ upn W i p j = p := ⟨i, by omega, upn_s _ _ _⟩
      refine ⟨fun _ => Or.inr hw, fun _ => Or.inr hw, fun z => ?_, fun z => ?_⟩
      · rcases z with z | z | z | z <;> exact absurd (isC_inj (by omega) (by omega) hq z) (by omega)
      · rcases z with z | z <;> exact absurd (isC_inj (by omega) (by omega) hq z) (by omega)
    · by_cases e2 : p = W i
      · rw [e2]; exact hJ _
      · refine JW_mono (h7 p (by omega)) (ha p (by omega) e2) (fun ⟨j, a, b⟩ => ⟨j, by omega, ?_⟩)
        by_cases e3 : j = i
        · subst e3; exact absurd b.symm e2
        · rw [upn_n _ _ e3]; exact b
theorem LI_close (h : LI kd wt s args wa op W Cc M q) (hi : Dn kd wt s q = i + 1) (hd : Dn kd wt s (q + 1) = i) (hl : DLn kd wt s (q + 1) = M i) (hq : ¬ isC kd wt (s + q) 1) (hs : DS kd wt s (Dn kd wt s) q) (ha : ∀ p, p < q → p ≠ W i → args' (s + p) = args (s + p)) (hJ : ∀ w, JW kd wt s args' (q + 1) w (W i)) (hJq : ∀ w, JW kd wt s args' (q + 1) w q) : LI kd wt s args' wa op W Cc M (q + 1) := by
  have hne := fun {j : Nat} (a : j < Dn kd wt s q) (b : j ≠ i) => LI_ne h (i := i) (by omega) a b
  obtain ⟨h1, h2, h3, h4, h5, h7⟩ := h
  refine ⟨fun r hr => ?_, fun p hp => ?_, h3, by rw [hl, hd], fun j hj => ?_, fun p hp => ?_⟩
  · by_cases e : r = q + 1
    · subst e; have := h1 q (by omega); omega
    · exact h1 r (by omega)
  · by_cases e : p = q
    · subst e; exact hs
    · exact h2 p (by omega)
  · have hjq := h5 j (by omega)
    exact LV_mono hjq (by omega) (fun z => hq z.2) (fun _ => ha _ hjq.2.2.1 (hne (by omega) (by omega))) rfl rfl rfl rfl rfl rfl
  · by_cases e : p = q
    · subst e; exact hJq _
    · by_cases e2 : p = W i
      · rw [e2]; exact hJ _
      · refine JW_mono (h7 p (by omega)) (ha p (by omega) e2) (fun ⟨j, a, b⟩ => ⟨j, ?_, b⟩)
        by_cases e3 : j = i
        · subst e3; exact absurd b.symm e2
        · omega
/-- a word that is none of those that lead anywhere -/
theorem JW_triv {w : Prop} (h0 : ¬ isC kd wt (s + p) 0) (h1 : ¬ isC kd wt (s + p) 1) (h6 : ¬ isC kd wt (s + p) 6) (h4 : ¬ isC kd wt (s + p) 4) (h5 : ¬ isC kd wt (s + p) 5) (h7 : ¬ isC kd wt (s + p) 7) (h9 : ¬ isC kd wt (s + p) 9) (h10 : isC kd wt (s + p) 10 → 1 ≤ DLn kd wt s p) : JW kd wt s args q w p :=
  ⟨fun z => absurd z h0, fun z => z.elim (fun z => absurd z h1) (fun z => absurd z h6), fun z => z.elim (fun z => absurd z h4) (fun z => z.elim (fun z => absurd z h5) (fun z => z.elim (fun z => absurd z h7) (fun z => absurd z h9))), fun z => z.elim (fun z => absurd z h9) h10⟩
theorem JW_c {w : Prop} (hc : isC kd wt (s + p) c) (h13 : c < 13) (hn : c = 2 ∨ c = 3 ∨ c = 8 ∨ c = 11 ∨ c = 12 ∨ (c = 10 ∧ 1 ≤ DLn kd wt s p)) : JW kd wt s args q w p :=
  JW_triv (isC_ne (by omega) (by omega) hc (by omega)) (isC_ne (by omega) (by omega) hc (by omega)) (isC_ne (by omega) (by omega) hc (by omega)) (isC_ne (by omega) (by omega) hc (by omega)) (isC_ne (by omega) (by omega) hc (by omega)) (isC_ne (by omega) (by omega) hc (by omega)) (isC_ne (by omega) (by omega) hc (by omega)) (fun z => by have := isC_inj (by omega) (by omega) hc z; omega)
theorem JW_k {w : Prop} (hk : kd (s + p) ≠ 2) : JW kd wt s args q w p :=
  JW_triv (fun z => hk z.1) (fun z => hk z.1) (fun z => hk z.1) (fun z => hk z.1) (fun z => hk z.1) (fun z => hk z.1) (fun z => hk z.1) (fun z => absurd z.1 hk)
theorem JW_bk {w : Prop} (hc : isC kd wt (s + p) c) (h : c = 4 ∨ c = 5 ∨ c = 7 ∨ (c = 9 ∧ 1 ≤ DLn kd wt s p)) (hb : BKok kd wt s args p) : JW kd wt s args q w p :=
  ⟨fun z => by have := isC_inj (by omega) (by omega) hc z; omega, fun z => by rcases z with z | z <;> have := isC_inj (by omega) (by omega) hc z <;> omega, fun _ => hb, fun z => by rcases z with z | z <;> have := isC_inj (by omega) (by omega) hc z <;> omega⟩
theorem JW_fw {w : Prop} (hc : isC kd wt (s + p) c) (h : c = 1 ∨ c = 6) (hb : FWok kd wt s args q p) : JW kd wt s args q w p :=
  ⟨fun z => by have := isC_inj (by omega) (by omega) hc z; omega, fun _ => Or.inl hb, fun z => by rcases z with z | z | z | z <;> have := isC_inj (by omega) (by omega) hc z <;> omega, fun z => by rcases z with z | z <;> have := isC_inj (by omega) (by omega) hc z <;> omega⟩
theorem JW_if {w : Prop} (hc : isC kd wt (s + p) 0) (hb : IFok kd wt s args q p) : JW kd wt s args q w p :=
  ⟨fun _ => Or.inl hb, fun z => by rcases z with z | z <;> have := isC_inj (by omega) (by omega) hc z <;> omega, fun z => by rcases z with z | z | z | z <;> have := isC_inj (by omega) (by omega) hc z <;> omega, fun z => by rcases z with z | z <;> have := isC_inj (by omega) (by omega) hc z <;> omega⟩
end
