/-! a word that stands outside definitions -/
abbrev T27 : Type := Int32 × (Nat → Int32) × (Nat → Int32) × (Nat → Int64) × (Nat → Int32) × Int32 × Int32 × (Nat → Int32) × Int32 × Int32 × (Nat → Int32) × (Nat → Int32) × Int32 × (Nat → Int32) × (Nat → Int32) × (Nat → Int32) × (Nat → Int32) × Int32 × Int32 × Int32 × (Nat → Int32) × Int32 × (Nat → Int32) × Int32 × Int32 × Int32 × Int32
abbrev M23 : Type := Int32 × (Nat → Int32) × Int32 × (Nat → Int32) × (Nat → Int32) × Int32 × (Nat → Int64) × (Nat → Int32) × (Nat → Int32) × Int32 × (Nat → Int32) × (Nat → Int32) × (Nat → Int32) × (Nat → Int32) × Int32 × (Nat → Int32) × (Nat → Int32) × (Nat → Int32) × Int32 × (Nat → Int32) × Int32 × Int32 × Int32
/-- what one word outside comes to -/
def TSim (tt : Nat → Nat) (nw w : Nat) (X : Option T27) (Y : Option M23) : Prop :=
  ∃ (F sz p lo b n st : Nat) (S : Nat → Nat) (ops args ds ms mz kd wt wa op lc ll ce en re lb v la k mem ou rn av ml mc ow : Nat → Int32) (keys names : Nat → Int64) (ol o l pl co ws we y : Int32), F ≤ 9 ∧
    X = some (nI F, ops, args, keys, ds, nI sz, ol, wa, o, l, lc, ll, nI lo, ce, en, re, lb, nI b, pl, nI st, v, nI n, la, co, ws, we, nI p) ∧
    Y = some (y, k, nI n, mem, ou, co, names, ms, mz, nI sz, kd, wt, rn, av, nI b, ml, mc, ow, nI lo, op, nI st, nI F, nI p) ∧
    DI keys names ds ops args ms mz kd wt S sz ∧ DR v k ce mem la ou co n ∧ lo ≤ 12 ∧ st ≤ 1000 ∧ (F = 0 → p < nw ∧ w ≤ p ∧ y = nI (p + 1) ∧ we = nI (tt p) ∧ b = 0 ∧ lo = 0)
section
variable {tx F G : Nat → Int32} {keys names K : Nat → Int64} {ds ops args ms mz kd wt wa op : Nat → Int32} {S fr tt : Nat → Nat} {sz n nw w : Nat}
theorem used_S (hD : DI keys names ds ops args ms mz kd wt S sz) : fnX12_used ms mz (nI sz) = some (nI (S sz)) := by
  have hsz := hD.1
  unfold fnX12_used
  by_cases h : sz = 0
  · subst h
    rw [if_pos (by decide), hD.2.1]; rfl
  · obtain ⟨g1, g2, g3, -⟩ := hD.2.2.2 (sz - 1) (by omega)
    rw [show sz - 1 + 1 = sz by omega] at g1 g3
    rw [if_neg (ne_L 0 0 h), show nI sz - 1 = nI (sz - 1) from pk_sub (a := sz) (b := 1) (by omega), ga_n (by omega) (by omega), bd1_s, ga_n (by omega) (by omega), bd1_s, g2, g3, nI_add, show S (sz - 1) + (S sz - S (sz - 1)) = S sz by omega]
theorem def_sim (hT : Tx tx n) (hWS : WS tx n nw fr tt) (hFG : ∀ k, k < nw → F k = nI (fr k) ∧ G k = nI (tt k)) (hnw : nw ≤ 150) (hK : ∀ j, j < 49 → K j = vkT j) (hD : DI keys names ds ops args ms mz kd wt S sz) (hw : w < nw) {ol o l ws pm : Int32} : DSim tt nw w (fnX3_define ops args keys ds (nI sz) ol wa o l tx (nI n) ws (nI (tt w)) (nI w) K) (fnX12_define tx F G (nI nw) names ms mz (nI sz) kd wt op 0 pm (nI w)) := by
  have hn := hT.1
  unfold fnX3_define fnX12_define
  rw [nI_1, show nI (tt w) = nI (pe tt (w + 1)) by rw [pe_s]]
  by_cases h1 : w + 1 < nw
  · obtain ⟨w1, w2, w3⟩ := WS_Wd hT hWS h1
    obtain ⟨eF, eG⟩ := hFG (w + 1) h1
    obtain ⟨b, b1, b2, b3⟩ := opw hT w1 w2 w3 hK hD
    rw [adv_ws hT hWS h1, bd4_s, if_neg (by decide), b2, bd1_s, nI_1, if_pos ((nI_ltI (by omega) (by omega)).mpr h1), pX12_spelled (by omega) w1 (by omega) eF eG, bd1_s, ga_n (by omega) (by omega), bd1_s, ga_n (by omega) (by omega), bd1_s, eF, eG, pk_sub (by omega), pX12_isNumber (by omega) w1 (by omega) eF eG, bd1_s]
    unfold fnX12_define_102
    have bad : DSim tt nw w (some (9, ops, args, keys, ds, nI sz, ol, wa, o, l, nI (fr (w + 1)), nI (tt (w + 1)), nI (w + 1))) (some (-1, names, ms, mz, nI sz, kd, wt, op, 9, nI (w + 1))) :=
      ⟨9, sz, w + 1, S, ops, args, ds, ms, mz, kd, wt, wa, op, keys, names, _, _, _, _, _, _, by omega, rfl, rfl, hD, fun z => absurd z (by omega)⟩
    have hlen : fnX9_wordLength (nI (fr (w + 1))) (nI (tt (w + 1))) = some (nI (tt (w + 1) - fr (w + 1))) := by
      unfold fnX9_wordLength
      rw [pk_sub (by omega)]
    have hcan : fnX3_canBeName (nI (fr (w + 1))) (nI (tt (w + 1))) (nI b) = some (if (b = 50 ∨ b = 52) ∧ tt (w + 1) - fr (w + 1) ≤ 6 then 1 else 0) := by
      unfold fnX3_canBeName fnX3_canBeName_12
      rw [hlen, bd1_s]
      by_cases c50 : b = 50
      · rw [if_pos (by rw [c50]; rfl)]
        by_cases c6 : tt (w + 1) - fr (w + 1) ≤ 6
        · rw [if_neg (sL_f 6 6 (by omega)), if_pos ⟨Or.inl c50, c6⟩]
        · rw [if_pos (sL_t 6 6 (by omega)), if_neg (fun z => c6 z.2)]
      · rw [if_neg (ne_L 50 50 c50)]
        by_cases c52 : b = 52
        · rw [if_pos (by rw [c52]; rfl)]
          by_cases c6 : tt (w + 1) - fr (w + 1) ≤ 6
          · rw [if_neg (sL_f 6 6 (by omega)), if_pos ⟨Or.inr c52, c6⟩]
          · rw [if_pos (sL_t 6 6 (by omega)), if_neg (fun z => c6 z.2)]
        · rw [if_neg (ne_L 52 52 c52), if_neg (fun z => z.1.elim c50 c52)]
    rw [hcan, bd1_s]
    by_cases c6 : tt (w + 1) - fr (w + 1) ≤ 6
    · rw [if_neg (show ¬ (6 : Int32) < nI (tt (w + 1) - fr (w + 1)) from sL_f 6 6 (by omega))]
      have fine : isn tx (fr (w + 1)) (tt (w + 1)) = 0 → (∀ q, q < 49 → vkT q ≠ sp tx (fr (w + 1)) (tt (w + 1))) → (b = 50 ∨ b = 52) → DSim tt nw w (if (if (b = 50 ∨ b = 52) ∧ tt (w + 1) - fr (w + 1) ≤ 6 then (1 : Int32) else 0) = 0 then some ((9 : Int32), ops, args, keys, ds, nI sz, ol, wa, o, l, nI (fr (w + 1)), nI (tt (w + 1)), nI (w + 1))
          else bd1 (fnX9_wordKey tx (nI n) (nI (fr (w + 1))) (nI (tt (w + 1)))) fun r_17 => bd1 (fnX1_openBody ol) fun Dictionary_openLength_18 => fnX3_define_43 tx (nI n) K fuel_ r_17 (0 : Int32) ops args keys ds (nI sz) Dictionary_openLength_18 wa o l (nI (fr (w + 1))) (nI (tt (w + 1))) (nI (w + 1)))
          (if isn tx (fr (w + 1)) (tt (w + 1)) = 0 then bd1 (fnX12_plain (sp tx (fr (w + 1)) (tt (w + 1)))) fun r_31 =>
            if 0 ≤ r_31 then some ((-1 : Int32), names, ms, mz, nI sz, kd, wt, op, (9 : Int32), nI (w + 1))
            else bd1 (fnX12_control (sp tx (fr (w + 1)) (tt (w + 1)))) fun r_33 =>
              if 0 ≤ r_33 then some ((-1 : Int32), names, ms, mz, nI sz, kd, wt, op, (9 : Int32), nI (w + 1))
              else if (lg_cmp (sp tx (fr (w + 1)) (tt (w + 1))) (58 : Int64)) = 0 then some ((-1 : Int32), names, ms, mz, nI sz, kd, wt, op, (9 : Int32), nI (w + 1))
              else if (lg_cmp (sp tx (fr (w + 1)) (tt (w + 1))) (59 : Int64)) = 0 then some ((-1 : Int32), names, ms, mz, nI sz, kd, wt, op, (9 : Int32), nI (w + 1))
              else if (lg_cmp (sp tx (fr (w + 1)) (tt (w + 1))) (3534730425076 : Int64)) = 0 then some ((-1 : Int32), names, ms, mz, nI sz, kd, wt, op, (9 : Int32), nI (w + 1))
              else bd1 (fnX12_used ms mz (nI sz)) fun r_38 => fnX12_define_124 tx F G (nI nw) fuel_ (sp tx (fr (w + 1)) (tt (w + 1))) r_38 (0 : Int32) (nI w + (2 : Int32)) names ms mz (nI sz) kd wt op 0 (nI (w + 1))
          else some ((-1 : Int32), names, ms, mz, nI sz, kd, wt, op, (9 : Int32), nI (w + 1))) := by
        intro i0 iv ib
        rw [if_pos (show (b = 50 ∨ b = 52) ∧ tt (w + 1) - fr (w + 1) ≤ 6 from ⟨ib, c6⟩), if_neg (show ¬ ((1 : Int32) = 0) by decide), if_pos i0, vk_noplain iv, bd1_s, if_neg (show ¬ (0 : Int32) ≤ -1 by decide), vk_nocontrol iv, bd1_s, if_neg (show ¬ (0 : Int32) ≤ -1 by decide), if_neg (fun z => iv 46 (by omega) (vk_m46.trans (lg0.mp z).symm)), if_neg (fun z => iv 47 (by omega) (vk_m47.trans (lg0.mp z).symm)), if_neg (fun z => iv 48 (by omega) (vk_m48.trans (lg0.mp z).symm)), used_S hD, bd1_s, pX9_wordKey hT w1 w2, bd1_s]
        unfold fnX1_openBody
        rw [bd1_s, show nI w + 2 = nI (w + 2) from nI_add w 2]
        have e1 : wk tx (fr (w + 1)) (tt (w + 1)) = kyf tx (tt (w + 1) - fr (w + 1)) (fr (w + 1)) 0 := if_pos (by omega)
        have e2 : sp tx (fr (w + 1)) (tt (w + 1)) = kyf tx (tt (w + 1) - fr (w + 1)) (fr (w + 1)) 0 := if_pos (by omega)
        rw [e2] at iv
        rw [e1, e2, show nI (tt (w + 1)) = nI (pe tt (w + 2)) by rw [pe_s]]
        exact def_loop hT hWS hFG hnw hK (NK_of w1 c6 w3 i0 iv) (nw - (w + 2)) (w + 2) 0 fuel_ fuel_ ops args kd wt wa op o l _ _ _ (by omega) (by omega) (by omega) (by unfold fuel_; omega) (by unfold fuel_; omega) (nI_1 (w + 1)) hD (fun q hq => absurd hq (by omega)) (Nat.zero_le _)
      rcases b3 with ⟨rfl, c1, c2, c3, c4, c5⟩ | ⟨c0, c1, c2, c3, c4, c5⟩ | ⟨rfl, c1, c2, c3, j, j1, j2, j3⟩ | ⟨rfl, c1, c2, c3⟩
      · rw [if_neg (show ¬ ((49 = 50 ∨ 49 = 52) ∧ tt (w + 1) - fr (w + 1) ≤ 6) by omega), if_pos rfl, c1, if_neg (by decide)]
        exact bad
      · rw [if_neg (show ¬ ((b = 50 ∨ b = 52) ∧ tt (w + 1) - fr (w + 1) ≤ 6) by omega), if_pos rfl, if_pos c1, c2]
        by_cases hp : b < 33
        · obtain ⟨p, p1, p2⟩ := vk_pi b hp
          have hpl := (vk_plain p p1).1
          rw [p2] at hpl
          rw [hpl, bd1_s, if_pos (lL_t 0 0 (by omega))]
          exact bad
        · by_cases hc2 : b < 46
          · have hpl := vk_control (b - 33) (by omega)
            rw [show 33 + (b - 33) = b by omega] at hpl
            rw [hpl.1, bd1_s, if_neg (by decide), hpl.2, bd1_s, if_pos (lL_t 0 0 (by omega))]
            exact bad
          · have hmk := vk_marks (b - 46) (by omega)
            rw [show 46 + (b - 46) = b by omega] at hmk
            rw [hmk.1, bd1_s, if_neg (by decide), hmk.2, bd1_s, if_neg (by decide)]
            rcases (show b = 46 ∨ b = 47 ∨ b = 48 by omega) with rfl | rfl | rfl
            · rw [if_pos (lg0.mpr vk_m46)]; exact bad
            · rw [if_neg (fun z => vk_inj 47 (by omega) 46 (by omega) (vk_m46.trans (lg0.mp z).symm)), if_pos (lg0.mpr vk_m47)]; exact bad
            · rw [if_neg (fun z => vk_inj 48 (by omega) 46 (by omega) (vk_m46.trans (lg0.mp z).symm)), if_neg (fun z => vk_inj 48 (by omega) 47 (by omega) (vk_m47.trans (lg0.mp z).symm)), if_pos (lg0.mpr vk_m48)]; exact bad
      · exact fine c1 c2 (Or.inl rfl)
      · exact fine c1 c2 (Or.inr rfl)
    · rw [if_neg (show ¬ ((b = 50 ∨ b = 52) ∧ tt (w + 1) - fr (w + 1) ≤ 6) from fun z => c6 z.2), if_pos rfl, if_pos (show (6 : Int32) < nI (tt (w + 1) - fr (w + 1)) from sL_t 6 6 (by omega))]
      exact bad
  · have : w + 1 = nw := by omega
    subst this
    rw [adv_end hT hWS, bd4_s, if_pos rfl, if_neg (fun z => absurd ((nI_ltI (by omega) (by omega)).mp z) (by omega)), nI_1]
    exact ⟨1, sz, w + 1, S, ops, args, ds, ms, mz, kd, wt, wa, op, keys, names, _, _, _, _, _, _, by omega, rfl, rfl, hD, fun z => absurd z (by omega)⟩
end
