/-! the face: each call answers the same on both sides -/
/-- code k of w -/
def cd (w : Int32) (k : Nat) : Int32 := (w >>> (((8 : Int32) * nI k) &&& 31)) &&& (255 : Int32)
theorem cd_nI {x : Int32} (h1 : ¬ x < 32) (h2 : x ≤ 126) : ∃ c, 32 ≤ c ∧ c ≤ 126 ∧ x = nI c := by
  have h0 : ¬ x < 0 := by
    intro z
    refine h1 ?_
    rw [Int32.lt_iff_toInt_lt] at z ⊢
    have e0 : (0 : Int32).toInt = 0 := by decide
    have e1 : (32 : Int32).toInt = 32 := by decide
    omega
  obtain ⟨c, hc, rfl⟩ := nI_of h0
  refine ⟨c, ?_, ?_, rfl⟩
  · rcases Nat.lt_or_ge c 32 with y | y
    · exact absurd (sR_t 32 32 y) h1
    · exact y
  · rcases Nat.lt_or_ge 126 c with y | y
    · exact absurd h2 (lR_f 126 126 (by omega))
    · exact y
theorem cut16 {c : Nat} (h : c ≤ 126) : ((nI c).toUInt32 % 65536).toInt32 = nI c := by
  have : ∀ c, c ≤ 126 → ((nI c).toUInt32 % 65536).toInt32 = nI c := by decide +kernel
  exact this c h
section
variable {w : Int32} {n m : Nat}
theorem feed_copy (hm : m ≤ 4) (hnm : n + m ≤ 300) (hc : ∀ i, i < m → ¬ cd w i < 32 ∧ cd w i ≤ 126) : ∀ (d k f g : Nat) (tx : Nat → Int32), k + d = m → d < f → d < g → Tx tx (n + k) → ∃ tx', fnX9_append_68 f w (nI m) (nI k) tx (nI n) = some (nI m, tx', nI (n + m)) ∧ fnX12_feed_73 g w (nI m) (nI k) tx (nI n) = some (nI m, tx', nI (n + m)) ∧ Tx tx' (n + m) := by
  intro d
  induction d with
  | zero =>
    intro k f g tx h1 h2 h3 hT
    obtain ⟨f, rfl⟩ : ∃ f', f = f' + 1 := ⟨f - 1, by omega⟩
    obtain ⟨g, rfl⟩ : ∃ g', g = g' + 1 := ⟨g - 1, by omega⟩
    have : k = m := by omega
    subst this
    rw [fnX9_append_68, fnX12_feed_73, if_pos (Int32.le_refl _), if_pos (Int32.le_refl _), nI_add]
    exact ⟨tx, rfl, rfl, hT⟩
  | succ d ih =>
    intro k f g tx h1 h2 h3 hT
    obtain ⟨f, rfl⟩ : ∃ f', f = f' + 1 := ⟨f - 1, by omega⟩
    obtain ⟨g, rfl⟩ : ∃ g', g = g' + 1 := ⟨g - 1, by omega⟩
    obtain ⟨c1, c2⟩ := hc k (by omega)
    obtain ⟨c, a1, a2, a3⟩ := cd_nI c1 c2
    have a3' : (w >>> (((8 : Int32) * nI k) &&& 31)) &&& (255 : Int32) = nI c := a3
    rw [fnX9_append_68, fnX12_feed_73, if_neg (fun z => absurd ((nI_leI (by omega) (by omega)).mp z) (by omega)), if_neg (fun z => absurd ((nI_leI (by omega) (by omega)).mp z) (by omega))]
    unfold fnX9_codeOf
    rw [bd1_s, nI_add, a3', cut16 a2, sc_n (by omega) (by omega), bd1_s, nar_of a2, sa_n (by omega) (by omega), bd1_s, nI_1]
    refine ih (k + 1) f g _ (by omega) (by omega) (by omega) ⟨by have := hT.1; omega, fun j hj => ?_⟩
    by_cases e : j = n + k
    · subst e; exact ⟨c, a1, a2, pk_us⟩
    · rw [pk_un e]; exact hT.2 j (by omega)
theorem feed_skip {tx : Nat → Int32} (hm : m ≤ 4) : ∀ (d k g : Nat), k + d = 4 → m < k → d < g → fnX12_feed_4 g w (nI m) (nI k) tx (nI n) = if (nI n + nI m) ≤ (300 : Int32) then fnX12_feed_73 fuel_ w (nI m) (0 : Int32) tx (nI n) else some ((-1 : Int32), tx, nI n) := by
  intro d
  induction d with
  | zero =>
    intro k g h1 h2 h3
    obtain ⟨g, rfl⟩ : ∃ g', g = g' + 1 := ⟨g - 1, by omega⟩
    rw [fnX12_feed_4, if_pos (lL_t 4 4 (by omega))]
  | succ d ih =>
    intro k g h1 h2 h3
    obtain ⟨g, rfl⟩ : ∃ g', g = g' + 1 := ⟨g - 1, by omega⟩
    rw [fnX12_feed_4, if_neg (lL_f 4 4 (by omega)), if_neg (fun z => absurd ((nI_eq (by omega) (by omega)).mp z) (by omega))]
    unfold fnX12_feed_51
    rw [nI_1]
    exact ih (k + 1) g (by omega) (by omega) (by omega)
theorem feed_scan {tx : Nat → Int32} : ∀ (d j f g : Nat), j + d = 4 → d < f → d < g → (∀ i, i < j → ¬ cd w i < 32 ∧ cd w i ≤ 126) →
    (fnX9_append_2 f w (nI j) tx (nI n) = some (-1, tx, nI n) ∧ fnX12_feed_4 g w (nI j) (nI j) tx (nI n) = some (-1, tx, nI n)) ∨
    ∃ m, m ≤ 4 ∧ (∀ i, i < m → ¬ cd w i < 32 ∧ cd w i ≤ 126) ∧ fnX9_append_2 f w (nI j) tx (nI n) = fnX9_append_43 w (nI m) tx (nI n) ∧ fnX12_feed_4 g w (nI j) (nI j) tx (nI n) = if (nI n + nI m) ≤ (300 : Int32) then fnX12_feed_73 fuel_ w (nI m) (0 : Int32) tx (nI n) else some ((-1 : Int32), tx, nI n) := by
  intro d
  induction d with
  | zero =>
    intro j f g h1 h2 h3 hc
    obtain ⟨f, rfl⟩ : ∃ f', f = f' + 1 := ⟨f - 1, by omega⟩
    obtain ⟨g, rfl⟩ : ∃ g', g = g' + 1 := ⟨g - 1, by omega⟩
    right
    refine ⟨j, by omega, hc, ?_, ?_⟩
    · rw [fnX9_append_2, if_pos (lL_t 4 4 (by omega))]
    · rw [fnX12_feed_4, if_pos (lL_t 4 4 (by omega))]
  | succ d ih =>
    intro j f g h1 h2 h3 hc
    obtain ⟨f, rfl⟩ : ∃ f', f = f' + 1 := ⟨f - 1, by omega⟩
    obtain ⟨g, rfl⟩ : ∃ g', g = g' + 1 := ⟨g - 1, by omega⟩
    have eA : fnX9_append_2 (f + 1) w (nI j) tx (nI n) = if cd w j = 0 then fnX9_append_43 w (nI j) tx (nI n) else if cd w j < 32 then some ((-1 : Int32), tx, nI n) else if cd w j ≤ 126 then fnX9_append_2 f w (nI (j + 1)) tx (nI n) else some ((-1 : Int32), tx, nI n) := by
      rw [fnX9_append_2, if_neg (lL_f 4 4 (by omega))]
      unfold fnX9_codeOf
      rw [bd1_s, bd1_s, bd1_s, nI_1]
      rfl
    have eB : fnX12_feed_4 (g + 1) w (nI j) (nI j) tx (nI n) = if cd w j = 0 then fnX12_feed_4 g w (nI j) (nI (j + 1)) tx (nI n) else if cd w j < 32 then some ((-1 : Int32), tx, nI n) else if cd w j ≤ 126 then fnX12_feed_4 g w (nI (j + 1)) (nI (j + 1)) tx (nI n) else some ((-1 : Int32), tx, nI n) := by
      rw [fnX12_feed_4, if_neg (lL_f 4 4 (by omega)), if_pos rfl]
      unfold fnX12_feed_51
      rw [nI_1]
      rfl
    rw [eA, eB]
    by_cases z0 : cd w j = 0
    · rw [if_pos z0, if_pos z0]
      right
      exact ⟨j, by omega, hc, rfl, feed_skip (by omega) d (j + 1) g (by omega) (by omega) (by omega)⟩
    · rw [if_neg z0, if_neg z0]
      by_cases z1 : cd w j < 32
      · rw [if_pos z1, if_pos z1]; exact Or.inl ⟨rfl, rfl⟩
      · rw [if_neg z1, if_neg z1]
        by_cases z2 : cd w j ≤ 126
        · rw [if_pos z2, if_pos z2]
          refine ih (j + 1) f g (by omega) (by omega) (by omega) (fun i hi => ?_)
          by_cases e : i = j
          · subst e; exact ⟨z1, z2⟩
          · exact hc i (by omega)
        · rw [if_neg z2, if_neg z2]; exact Or.inl ⟨rfl, rfl⟩
theorem feed_sim {tx : Nat → Int32} (hT : Tx tx n) (w : Int32) : ∃ (r : Int32) (tx' : Nat → Int32) (n' : Nat), fnX11_feed tx (nI n) w = some (r, tx', nI n') ∧ fnX12_feed tx (nI n) w = some (r, tx', nI n') ∧ Tx tx' n' := by
  have hn := hT.1
  unfold fnX11_feed fnX9_append fnX12_feed
  have hs := feed_scan (w := w) (n := n) (tx := tx) 4 0 fuel_ fuel_ (by omega) (by unfold fuel_; omega) (by unfold fuel_; omega) (fun i hi => absurd hi (by omega))
  rw [show nI 0 = (0 : Int32) from rfl] at hs
  rcases hs with ⟨a, b⟩ | ⟨m, m4, hc, a, b⟩
  · rw [a, b, bd3_s]; exact ⟨-1, tx, n, rfl, rfl, hT⟩
  · rw [a, b]
    unfold fnX9_append_43
    rw [if_neg (nI_pos (by omega)), nI_add]
    by_cases h3 : n + m ≤ 300
    · rw [if_pos (lR_t 300 300 h3), if_pos (lR_t 300 300 h3)]
      obtain ⟨tx', e1, e2, e3⟩ := feed_copy m4 h3 hc m 0 fuel_ fuel_ tx (by omega) (by unfold fuel_; omega) (by unfold fuel_; omega) hT
      have e1' : fnX9_append_68 fuel_ w (nI m) 0 tx (nI n) = some (nI m, tx', nI (n + m)) := e1
      have e2' : fnX12_feed_73 fuel_ w (nI m) 0 tx (nI n) = some (nI m, tx', nI (n + m)) := e2
      rw [e1', e2', bd3_s]
      exact ⟨_, tx', n + m, rfl, rfl, e3⟩
    · rw [if_neg (lR_f 300 300 h3), if_neg (lR_f 300 300 h3), bd3_s]
      exact ⟨-1, tx, n, rfl, rfl, hT⟩
end
section
variable {v k ce mem la ou : Nat → Int32} {co : Int32} {h : Nat} {keys names : Nat → Int64} {ds ops args ms mz kd wt : Nat → Int32} {S : Nat → Nat} {sz : Nat}
theorem value_sim (hR : DR v k ce mem la ou co h) (x : Int32) : ∃ r, fnX11_value v (nI h) x = some r ∧ fnX12_value k (nI h) x = some r := by
  have hh := hR.1
  unfold fnX11_value fnX12_value fnX7_has
  by_cases h0 : x < 0
  · rw [if_pos h0, if_pos h0, bd1_s, if_pos rfl]; exact ⟨_, rfl, rfl⟩
  · rw [if_neg h0, if_neg h0]
    obtain ⟨i, hi, rfl⟩ := nI_of h0
    by_cases h1 : i < h
    · rw [if_neg (fun z => absurd ((nI_leI (by omega) (by omega)).mp z) (by omega)), if_pos ((nI_ltI (by omega) (by omega)).mpr h1), bd1_s, if_neg (by decide), pX7_top hh h1, bd1_s, show nI h - 1 = nI (h - 1) from pk_sub (a := h) (b := 1) (by omega), pk_sub (by omega), ga_n (by omega) (by omega), bd1_s]
      exact ⟨_, rfl, by rw [hR.2.1 (h - 1 - i) (by omega)]⟩
    · rw [if_pos ((nI_leI (by omega) (by omega)).mpr (by omega)), if_neg (fun z => h1 ((nI_ltI (by omega) (by omega)).mp z)), bd1_s, if_pos rfl]; exact ⟨_, rfl, rfl⟩
theorem push_sim (hR : DR v k ce mem la ou co h) (x : Int32) : ∃ (r : Int32) (v' k' : Nat → Int32) (h' : Nat), fnX11_push v (nI h) x = some (r, v', nI h') ∧ fnX12_push k (nI h) x = some (r, k', nI h') ∧ DR v' k' ce mem la ou co h' := by
  have hh := hR.1
  unfold fnX11_push fnX12_push
  by_cases h1 : h = 32
  · rw [pX7_put_full h1, bd3_s, gd_t (Or.inl rfl), if_pos (by rw [h1]; rfl)]
    exact ⟨0, v, k, h, rfl, rfl, hR⟩
  · rw [pX7_put (by omega), bd3_s, gd_t (Or.inr rfl), if_neg (ne_L 32 32 h1), pX12_put (by omega), bd2_s]
    exact ⟨1, _, _, h + 1, rfl, rfl, by omega, Ag_up hR.2.1 x, hR.2.2⟩
theorem cell_sim (hR : DR v k ce mem la ou co h) (x : Int32) : ∃ r, fnX11_cell ce x = some r ∧ fnX12_cell mem x = some r := by
  unfold fnX11_cell fnX12_cell fnX5_hasCell
  by_cases h0 : x < 0
  · rw [if_pos h0, if_pos h0, bd1_s, if_pos rfl]; exact ⟨_, rfl, rfl⟩
  · rw [if_neg h0, if_neg h0]
    by_cases h1 : 16 ≤ x
    · rw [if_pos h1, if_neg (i15.mpr h1), bd1_s, if_pos rfl]; exact ⟨_, rfl, rfl⟩
    · obtain ⟨i, i1, i2, i3, -⟩ := readCell (ce := ce) h0 h1
      have h15 : x ≤ 15 := by
        by_cases y : x ≤ 15
        · exact y
        · exact absurd (i15.mp y) h1
      rw [if_neg h1, if_pos h15, bd1_s, if_neg (by decide), i3, bd1_s, i2, ga_n i1 (by omega), bd1_s]
      exact ⟨_, rfl, by rw [hR.2.2.1 i i1]⟩
theorem output_sim (hR : DR v k ce mem la ou co h) (x : Int32) : ∃ r, fnX11_output la co x = some r ∧ fnX12_output ou co x = some r := by
  unfold fnX11_output fnX12_output fnX8_has
  by_cases h0 : x < 0
  · rw [if_pos h0, if_pos h0, bd1_s, if_pos rfl]; exact ⟨_, rfl, rfl⟩
  · rw [if_neg h0, if_neg h0]
    by_cases h1 : 16 ≤ x
    · rw [if_pos h1, if_pos (Int32.not_le.mp (i15.mpr h1)), bd1_s, if_pos rfl]; exact ⟨_, rfl, rfl⟩
    · obtain ⟨i, i1, i2, -, -⟩ := readCell (ce := ce) h0 h1
      rw [if_neg h1, if_neg (fun z => h1 (i15.mp (Int32.not_le.mpr z)))]
      by_cases h2 : co ≤ x
      · rw [if_pos h2, if_neg (Int32.not_lt.mpr h2), bd1_s, if_pos rfl]; exact ⟨_, rfl, rfl⟩
      · rw [if_neg h2, if_pos (Int32.not_le.mp h2), bd1_s, if_neg (by decide)]
        unfold fnX8_fromLatest
        rw [i2, sub15 co i1, ga_n (by omega) (by omega), bd1_s, bd1_s, ga_n i1 (by omega), bd1_s]
        exact ⟨_, rfl, by rw [hR.2.2.2 i i1]⟩
theorem body_sim (hD : DI keys names ds ops args ms mz kd wt S sz) (x : Int32) : ∃ r, fnX11_body ds (nI sz) x = some r ∧ fnX12_body mz (nI sz) x = some r := by
  have hsz := hD.1
  unfold fnX11_body fnX12_body fnX1_has
  by_cases h0 : x < 0
  · rw [if_pos h0, if_pos h0, bd1_s, if_pos rfl]; exact ⟨_, rfl, rfl⟩
  · rw [if_neg h0, if_neg h0]
    obtain ⟨i, hi, rfl⟩ := nI_of h0
    by_cases h1 : i < sz
    · obtain ⟨g1, g2, g3, -⟩ := hD.2.2.2 i h1
      rw [if_neg (fun z => absurd ((nI_leI (by omega) (by omega)).mp z) (by omega)), if_pos ((nI_ltI (by omega) (by omega)).mpr h1), bd1_s, if_neg (by decide)]
      unfold fnX1_endOf fnX1_startOf
      rw [if_neg h0, show (21 : Int32) - 1 = 20 from rfl, if_neg (lL_f 20 20 (by omega)), nI_1, ga_n (by omega) (by omega), bd1_s, bd1_s, if_neg h0, if_neg (lL_f 21 21 (by omega)), ga_n (by omega) (by omega), bd1_s, bd1_s, (hD.2.2.1 (i + 1) (by omega)).1, (hD.2.2.1 i (by omega)).1, pk_sub g1, ga_n (by omega) (by omega), bd1_s, g3]
      exact ⟨_, rfl, rfl⟩
    · rw [if_pos ((nI_leI (by omega) (by omega)).mpr (by omega)), if_neg (fun z => h1 ((nI_ltI (by omega) (by omega)).mp z)), bd1_s, if_pos rfl]; exact ⟨_, rfl, rfl⟩
theorem name_sim (hD : DI keys names ds ops args ms mz kd wt S sz) (x : Int32) : ∃ r, fnX11_name keys (nI sz) x = some r ∧ fnX12_name names (nI sz) x = some r := by
  have hsz := hD.1
  unfold fnX11_name fnX12_name fnX1_has
  by_cases h0 : x < 0
  · rw [if_pos h0, if_pos h0, bd1_s, if_pos rfl]; exact ⟨_, rfl, rfl⟩
  · rw [if_neg h0, if_neg h0]
    obtain ⟨i, hi, rfl⟩ := nI_of h0
    by_cases h1 : i < sz
    · obtain ⟨-, -, -, g4, -⟩ := hD.2.2.2 i h1
      rw [if_neg (fun z => absurd ((nI_leI (by omega) (by omega)).mp z) (by omega)), if_pos ((nI_ltI (by omega) (by omega)).mpr h1), bd1_s, if_neg (by decide)]
      unfold fnX1_keyOf
      rw [if_neg h0, if_neg (lL_f 20 20 (by omega)), ga_n (by omega) (by omega), bd1_s, bd1_s, ga_n (by omega) (by omega), bd1_s, g4]
      exact ⟨_, rfl, rfl⟩
    · rw [if_pos ((nI_leI (by omega) (by omega)).mpr (by omega)), if_neg (fun z => h1 ((nI_ltI (by omega) (by omega)).mp z)), bd1_s, if_pos rfl]; exact ⟨_, rfl, rfl⟩
end
