/-! link and balanced say the same, and link leads each word where the reference goes -/
theorem DLn_le {kd wt : Nat → Int32} {s : Nat} : ∀ q, DLn kd wt s q ≤ q := by
  intro q
  induction q with
  | zero => exact Nat.le_refl _
  | succ q ih =>
    show (if kd (s + q) = 2 ∧ wt (s + q) = nI 8 then DLn kd wt s q + 1 else if kd (s + q) = 2 ∧ wt (s + q) = nI 9 then DLn kd wt s q - 1 else DLn kd wt s q) ≤ q + 1
    by_cases h1 : kd (s + q) = 2 ∧ wt (s + q) = nI 8
    · rw [if_pos h1]; omega
    · rw [if_neg h1]
      by_cases h2 : kd (s + q) = 2 ∧ wt (s + q) = nI 9
      · rw [if_pos h2]; omega
      · rw [if_neg h2]; omega
section
variable {ops kd wt a0 : Nat → Int32} {s n : Nat}
/-- what both come to -/
def LR (kd wt a0 : Nat → Int32) (s n : Nat) (X : Option (Int32 × (Nat → Int32) × (Nat → Int32) × Int32 × Int32)) (Y : Option (Int32 × (Nat → Int32))) : Prop :=
  ∃ (R : Int32) (args' wa' op' : Nat → Int32) (o' l' : Int32), X = some (R, args', wa', o', l') ∧ Y = some (R, op') ∧ PA kd wt s a0 args' ∧ (R = 0 ∨ (R = 1 ∧ Dn kd wt s n = 0 ∧ ∃ (wa op : Nat → Int32) (W Cc M : Nat → Nat), LI kd wt s args' wa op W Cc M n))
theorem LR_fail {f : Nat} {x2 x4 o l : Int32} {args wa op : Nat → Int32} (hP : PA kd wt s a0 args) : LR kd wt a0 s n (fnX2_link_15 ops (f + 1) x2 0 x4 args wa o l) (some (0, op)) :=
  ⟨0, args, wa, op, o, l, lk_fail, rfl, hP, Or.inl rfl⟩
theorem link_loop (hn : s + n ≤ 200) (hW : ∀ q, q < n → WP kd wt ops (s + q)) : ∀ (e q f g : Nat) (args wa op : Nat → Int32) (W Cc M : Nat → Nat), q + e = n → e + 1 < f → e + 1 < g → LI kd wt s args wa op W Cc M q → PA kd wt s a0 args → LR kd wt a0 s n (fnX2_link_15 ops f (nI (s + n)) 1 (nI (s + q)) args wa (nI (Dn kd wt s q)) (nI (DLn kd wt s q))) (fnX12_balanced_8 kd wt g (nI s) (nI n) (nI (Dn kd wt s q)) (nI (DLn kd wt s q)) (nI (s + q)) op) := by
  intro e
  induction e with
  | zero =>
    intro q f g args wa op W Cc M hq hf hg hL hP
    obtain ⟨f, rfl⟩ : ∃ f', f = f' + 1 := ⟨f - 1, by omega⟩
    obtain ⟨g, rfl⟩ : ∃ g', g = g' + 1 := ⟨g - 1, by omega⟩
    have : q = n := by omega
    subst this
    rw [lk_end, bl_end]
    have h8 := hL.1 q (Nat.le_refl q)
    refine ⟨_, args, wa, op, _, _, rfl, rfl, hP, ?_⟩
    by_cases h0 : Dn kd wt s q = 0
    · exact Or.inr ⟨if_pos (by rw [h0]; rfl), h0, wa, op, W, Cc, M, hL⟩
    · exact Or.inl (if_neg (ne_L 0 0 h0))
  | succ e ih =>
    intro q f g args wa op W Cc M hq hf hg hL hP
    obtain ⟨f, rfl⟩ : ∃ f', f = f' + 1 := ⟨f - 1, by omega⟩
    obtain ⟨g, rfl⟩ : ∃ g', g = g' + 1 := ⟨g - 1, by omega⟩
    have hqn : s + q < s + n := by omega
    have h8 := hL.1 q (Nat.le_refl q)
    have hdl := DLn_le (kd := kd) (wt := wt) (s := s) q
    have next : ∀ (args' wa' op' : Nat → Int32) (W' Cc' M' : Nat → Nat) (o l : Int32), LI kd wt s args' wa' op' W' Cc' M' (q + 1) → PA kd wt s a0 args' → o = nI (Dn kd wt s (q + 1)) → l = nI (DLn kd wt s (q + 1)) → LR kd wt a0 s n (fnX2_link_15 ops f (nI (s + n)) 1 (nI (s + (q + 1))) args' wa' o l) (fnX12_balanced_8 kd wt g (nI s) (nI n) o l (nI (s + (q + 1))) op') := by
      intro args' wa' op' W' Cc' M' o l h1 h2 h3 h4
      subst h3 h4
      exact ih (q + 1) f g args' wa' op' W' Cc' M' (by omega) (by omega) (by omega) h1 h2
    have fail : ∀ (args' wa' op' : Nat → Int32) (o l : Int32), PA kd wt s a0 args' → LR kd wt a0 s n (fnX2_link_15 ops f (nI (s + n)) 0 (nI (s + (q + 1))) args' wa' o l) (some (0, op')) := by
      intro args' wa' op' o l h1
      obtain ⟨f, rfl⟩ : ∃ f', f = f' + 1 := ⟨f - 1, by omega⟩
      exact LR_fail h1
    rcases hW q (by omega) with ⟨hk, b, hb, hb2, hb3⟩ | ⟨hk, c, hc, hw, ho⟩
    · -- no control word
      rw [lk_other hqn hn hb hb2 hb3, bl_other hqn hn hk]
      refine next args wa op W Cc M _ _ (LI_plain hL (Dn_k hk) (DLn_k hk) (DS_n (fun z => absurd z hk) (fun z => by rcases z with z | z | z | z | z <;> exact absurd z.1 hk)) (fun z => hk z.1) (fun w => JW_k hk)) hP (by rw [Dn_k hk]) (by rw [DLn_k hk])
    · have hC : isC kd wt (s + q) c := ⟨hk, hw⟩
      have dn := Dn_s hC hc
      have dl := DLn_s hk hw hc
      have hds : (clQ kd wt (s + q) → 1 ≤ Dn kd wt s q) → DS kd wt s (Dn kd wt s) q := fun h => DS_n (fun _ => ⟨c, hc, hw⟩) h
      have hncl : ¬ (c = 2 ∨ c = 4 ∨ c = 5 ∨ c = 7 ∨ c = 9) → DS kd wt s (Dn kd wt s) q := fun h => hds (fun z => by rcases z with z | z | z | z | z <;> have := isC_inj (by omega) (by omega) hC z <;> omega)
      by_cases c1 : c = 0 ∨ c = 3 ∨ c = 8
      · rw [lk_open hqn hn c1 ho h8, bl_open hqn hn c1 hC h8]
        by_cases h7 : Dn kd wt s q < 8
        · rw [if_pos h7, if_pos h7]
          refine next _ _ _ _ _ _ _ _ (LI_open hL c1 hC h7 (hncl (by omega))) hP (by rw [dn, if_pos c1]) ?_
          rw [dl]
          by_cases e8 : c = 8
          · rw [if_pos e8, if_pos e8]
          · rw [if_neg e8, if_neg e8, if_neg (by omega)]; rfl
        · rw [if_neg h7, if_neg h7]
          exact fail _ _ _ _ _ hP
      · rw [if_neg c1] at dn
        by_cases c2 : c = 1 ∨ c = 6
        · rw [if_neg (by omega)] at dn
          rw [if_neg (by omega), if_neg (by omega)] at dl
          by_cases h0 : Dn kd wt s q = 0
          · rw [h0, lk_div0 hqn hn c2 ho, bl_div0 hqn hn c2 hC]
            exact fail _ _ _ _ _ hP
          · obtain ⟨i, hi⟩ : ∃ i, Dn kd wt s q = i + 1 := ⟨Dn kd wt s q - 1, by omega⟩
            obtain ⟨g1, g2, g3, g4, g5, g6, g7, g8, g9, g10, g11⟩ := hL.2.2.2.2.1 i (by omega)
            have hwc : ops (s + W i) = nI (33 + Cc i) := by
              rcases hW (W i) (by omega) with ⟨z, -⟩ | ⟨-, c', z1, z2, z3⟩
              · exact absurd g4.1 z
              · have := (nI_eq (a := c') (b := Cc i) (by omega) (by omega)).mp (z2.symm.trans g4.2)
                rw [← this]; exact z3
            have hM4 := hL.2.2.2.1
            rcases c2 with rfl | rfl
            · -- else
              rw [hi, lk_else hqn hn ho (by omega) g1 (by omega) hwc (by omega), bl_else hqn hn hC (by omega) g2 (by omega)]
              have hP' : PA kd wt s a0 (upd args (s + W i) (nI (s + (q + 1)))) := PA_upd hP g4 (by omega)
              by_cases e0 : Cc i = 0
              · rw [if_pos e0, if_pos e0]
                rw [e0] at g4 g10
                refine next _ _ _ _ _ M _ _ (LI_div hL hi (by omega) (Or.inl rfl) hC (hncl (by omega)) (fun p p1 p2 => pk_un (by omega)) (fun w => JW_if g4 ⟨q, g3, by omega, by omega, Or.inl hC, fun x x1 x2 => ?_, fun x x1 x2 => ?_, pk_us, ?_⟩) (fun z => by omega)) hP' (by rw [dn, hi]) (by rw [dl])
                · have := g7 x x1 x2; omega
                · exact fun y => g8 x x1 x2 (by omega) y.2
                · rw [dl, hM4, hi, g10, if_neg (by omega), g9]; rfl
              · rw [if_neg e0, if_neg e0]
                exact fail _ _ _ _ _ hP'
            · -- while
              rw [hi, lk_while hqn hn ho (by omega) g1 (by omega) hwc (by omega), bl_while hqn hn hC (by omega) g2 (by omega)]
              have hP' : PA kd wt s a0 (upd args (s + q) (nI (s + W i + 1))) := PA_upd hP hC (by omega)
              by_cases e3 : Cc i = 3
              · rw [if_pos e3, if_pos e3]
                rw [e3] at g4 g10
                have hop := Dn_s g4 (by omega)
                rw [if_pos (by omega)] at hop
                have hlp := DLn_s g4.1 g4.2 (by omega)
                rw [if_neg (by omega), if_neg (by omega)] at hlp
                refine next _ _ _ _ _ M _ _ (LI_div hL hi (by omega) (Or.inr rfl) hC (hncl (by omega)) (fun p p1 p2 => pk_un (by omega)) (fun w => JW_c g4 (by omega) (by omega)) (fun z => ⟨W i, g3, pk_us, by omega, fun r r1 r2 => g7 r r1 r2, by omega⟩)) hP' (by rw [dn, hi]) (by rw [dl])
              · rw [if_neg e3, if_neg e3]
                exact fail _ _ _ _ _ hP'
        · by_cases c3 : c = 2 ∨ c = 4 ∨ c = 5 ∨ c = 7 ∨ c = 9
          · rw [if_pos c3] at dn
            by_cases h0 : Dn kd wt s q = 0
            · rw [h0, lk_120 hqn hn c3 ho cl_0, bl_cl0 hqn hn c3 hC]
              exact fail _ _ _ _ _ hP
            · obtain ⟨i, hi⟩ : ∃ i, Dn kd wt s q = i + 1 := ⟨Dn kd wt s q - 1, by omega⟩
              obtain ⟨g1, g2, g3, g4, g5, g6, g7, g8, g9, g10, g11⟩ := hL.2.2.2.2.1 i (by omega)
              have hwc : ops (s + W i) = nI (33 + Cc i) := by
                rcases hW (W i) (by omega) with ⟨z, -⟩ | ⟨-, c', z1, z2, z3⟩
                · exact absurd g4.1 z
                · have := (nI_eq (a := c') (b := Cc i) (by omega) (by omega)).mp (z2.symm.trans g4.2)
                  rw [← this]; exact z3
              have hM4 := hL.2.2.2.1
              rw [hi] at hM4
              have hds1 := hds (fun _ => by omega)
              have hne : ¬ isC kd wt (s + q) 1 := isC_ne (by omega) (by omega) hC (by omega)
              have hclq : clQ kd wt (s + q) := by
                rcases c3 with rfl | rfl | rfl | rfl | rfl
                · exact Or.inl hC
                · exact Or.inr (Or.inl hC)
                · exact Or.inr (Or.inr (Or.inl hC))
                · exact Or.inr (Or.inr (Or.inr (Or.inl hC)))
                · exact Or.inr (Or.inr (Or.inr (Or.inr hC)))
              rw [hi, lk_120 hqn hn c3 ho (cl_1 c3 (by omega) g1 (by omega) (by omega) hwc (by omega)), bl_cl1 hqn hn c3 hC (by omega) g2 (by omega)]
              have hP' : PA kd wt s a0 (clA args c (s + W i) (s + q)) := by
                unfold clA
                by_cases k2 : c = 2
                · rw [if_pos k2]; exact PA_upd hP g4 (by omega)
                · rw [if_neg k2]
                  by_cases k7 : c = 7
                  · rw [if_pos k7]; exact PA_upd (PA_upd hP hC (by omega)) g4 (by omega)
                  · rw [if_neg k7]; exact PA_upd hP hC (by omega)
              by_cases hf2 : fit c (Cc i) = true
              · rw [if_pos hf2, if_pos hf2]
                have hdq : Dn kd wt s (q + 1) = i := by omega
                rcases c3 with rfl | rfl | rfl | rfl | rfl
                · -- then
                  have e01 : Cc i = 0 ∨ Cc i = 1 := by simpa [fit] using hf2
                  rw [if_neg (by omega), if_neg (by omega)] at dl
                  rw [if_neg (by omega)] at g10
                  refine next _ wa op W Cc M _ _ (LI_close hL hi hdq (by omega) hne hds1 (fun p p1 p2 => ?_) (fun w => ?_) (fun w => JW_c hC (by omega) (by omega))) hP' (by rw [hdq]) (by rw [if_neg (by omega), dl])
                  · show upd args (s + W i) (nI (s + q + 1)) (s + p) = _
                    exact pk_un (by omega)
                  · rcases e01 with e0 | e0
                    · rw [e0] at g4
                      refine JW_if g4 ⟨q, g3, by omega, by omega, Or.inr hclq, fun x x1 x2 => ?_, fun x x1 x2 => ?_, pk_us, ?_⟩
                      · have := g7 x x1 x2; omega
                      · exact fun y => g8 x x1 x2 (by omega) y.2
                      · omega
                    · rw [e0] at g4
                      refine JW_fw g4 (Or.inl rfl) ⟨q, g3, by omega, by omega, hclq, fun x x1 x2 => ?_, pk_us, ?_⟩
                      · have := g7 x x1 x2; omega
                      · omega
                · -- until
                  have e3 : Cc i = 3 := by simpa [fit] using hf2
                  rw [if_neg (by omega), if_neg (by omega)] at dl
                  rw [if_neg (by omega)] at g10
                  rw [e3] at g4
                  have hop := Dn_s g4 (by omega)
                  rw [if_pos (by omega)] at hop
                  have hlp := DLn_s g4.1 g4.2 (by omega)
                  rw [if_neg (by omega), if_neg (by omega)] at hlp
                  refine next _ wa op W Cc M _ _ (LI_close hL hi hdq (by omega) hne hds1 (fun p p1 p2 => ?_) (fun w => JW_c g4 (by omega) (by omega)) (fun w => JW_bk hC (by omega) ⟨W i, g3, by omega, fun x x1 x2 => ?_, pk_us, by omega⟩)) hP' (by rw [hdq]) (by rw [if_neg (by omega), dl])
                  · show upd args (s + q) (nI (s + W i + 1)) (s + p) = _
                    exact pk_un (by omega)
                  · have := g7 x x1 x2; omega
                · -- again
                  have e3 : Cc i = 3 := by simpa [fit] using hf2
                  rw [if_neg (by omega), if_neg (by omega)] at dl
                  rw [if_neg (by omega)] at g10
                  rw [e3] at g4
                  have hop := Dn_s g4 (by omega)
                  rw [if_pos (by omega)] at hop
                  have hlp := DLn_s g4.1 g4.2 (by omega)
                  rw [if_neg (by omega), if_neg (by omega)] at hlp
                  refine next _ wa op W Cc M _ _ (LI_close hL hi hdq (by omega) hne hds1 (fun p p1 p2 => ?_) (fun w => JW_c g4 (by omega) (by omega)) (fun w => JW_bk hC (by omega) ⟨W i, g3, by omega, fun x x1 x2 => ?_, pk_us, by omega⟩)) hP' (by rw [hdq]) (by rw [if_neg (by omega), dl])
                  · show upd args (s + q) (nI (s + W i + 1)) (s + p) = _
                    exact pk_un (by omega)
                  · have := g7 x x1 x2; omega
                · -- repeat
                  have e6 : Cc i = 6 := by simpa [fit] using hf2
                  rw [if_neg (by omega), if_neg (by omega)] at dl
                  rw [if_neg (by omega)] at g10
                  obtain ⟨b, b1, b2, b3, b4, b5⟩ := g11 e6
                  rw [e6] at g4
                  refine next _ wa op W Cc M _ _ (LI_close hL hi hdq (by omega) hne hds1 (fun p p1 p2 => ?_) (fun w => JW_fw g4 (Or.inr rfl) ⟨q, g3, by omega, by omega, hclq, fun x x1 x2 => ?_, pk_us, by omega⟩) (fun w => JW_bk hC (by omega) ⟨b, by omega, by omega, fun x x1 x2 => ?_, ?_, by omega⟩)) hP' (by rw [hdq]) (by rw [if_neg (by omega), dl])
                  · show upd (upd args (s + q) (args (s + W i))) (s + W i) (nI (s + q + 1)) (s + p) = _
                    rw [pk_un (by omega), pk_un (by omega)]
                  · have := g7 x x1 x2; omega
                  · have := b4 x x1 x2; omega
                  · show upd (upd args (s + q) (args (s + W i))) (s + W i) (nI (s + q + 1)) (s + q) = _
                    rw [pk_un (by omega), pk_us, b2]
                · -- loop
                  have e8 : Cc i = 8 := by simpa [fit] using hf2
                  rw [if_neg (by omega), if_pos rfl] at dl
                  rw [if_pos e8] at g10
                  rw [e8] at g4
                  have hop := Dn_s g4 (by omega)
                  rw [if_pos (by omega)] at hop
                  have hlp := DLn_s g4.1 g4.2 (by omega)
                  rw [if_pos rfl] at hlp
                  refine next _ wa op W Cc M _ _ (LI_close hL hi hdq (by omega) hne hds1 (fun p p1 p2 => ?_) (fun w => JW_c g4 (by omega) (by omega)) (fun w => JW_bk hC (by omega) ⟨W i, g3, by omega, fun x x1 x2 => ?_, pk_us, by omega⟩)) hP' (by rw [hdq]) (by rw [if_pos rfl, dl]; exact pk_sub (a := DLn kd wt s q) (b := 1) (by omega))
                  · show upd args (s + q) (nI (s + W i + 1)) (s + p) = _
                    exact pk_un (by omega)
                  · have := g7 x x1 x2; omega
              · rw [if_neg hf2, if_neg hf2]
                exact fail _ _ _ _ _ hP'
          · rw [if_neg c3] at dn
            by_cases c4 : c = 10
            · subst c4
              rw [if_neg (by omega), if_neg (by omega)] at dl
              rw [lk_i hqn hn ho (by omega), bl_i hqn hn hC h8 (by omega)]
              by_cases h0 : DLn kd wt s q = 0
              · rw [if_pos h0, if_pos h0]
                exact fail _ _ _ _ _ hP
              · rw [if_neg h0, if_neg h0]
                exact next args wa op W Cc M _ _ (LI_plain hL dn dl (hncl (by omega)) (isC_ne (by omega) (by omega) hC (by omega)) (fun w => JW_c hC (by omega) (by omega))) hP (by rw [dn]) (by rw [dl])
            · rw [if_neg (by omega), if_neg (by omega)] at dl
              rw [lk_other hqn hn ho (by omega) (by omega), bl_ex hqn hn (by omega) hC h8]
              exact next args wa op W Cc M _ _ (LI_plain hL dn dl (hncl (by omega)) (isC_ne (by omega) (by omega) hC (by omega)) (fun w => JW_c hC (by omega) (by omega))) hP (by rw [dn]) (by rw [dl])
end
