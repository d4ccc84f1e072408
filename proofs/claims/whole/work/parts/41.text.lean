/-! the text: chars, words -/
/-- a text of n chars: each is 32 .. 126 -/
def Tx (tx : Nat → Int32) (n : Nat) : Prop := n ≤ 300 ∧ ∀ j, j < n → ∃ k, 32 ≤ k ∧ k ≤ 126 ∧ tx j = nI k
theorem nar_of {k : Nat} (h : k ≤ 126) : vp_nar .char (nI k) = nI k := by
  have e := (pk_charN (q := k) (by omega)).1
  have e2 : narrow .char (.int (nI k)) = .int (vp_nar .char (nI k)) := rfl
  rw [e2] at e
  exact Value.int.inj e
theorem pX9_charAt {tx : Nat → Int32} {n j : Nat} (hT : Tx tx n) (hj : j < n) : fnX9_charAt tx (nI n) (nI j) = some (tx j) := by
  obtain ⟨hn, hc⟩ := hT
  obtain ⟨k, h1, h2, h3⟩ := hc j hj
  unfold fnX9_charAt
  have a1 : ¬ n ≤ j := by omega
  have a2 : ¬ 300 ≤ j := by omega
  simp (disch := omega) only [q0, q300, nI_ltI, nI_leI, Nat.not_lt_zero, a1, a2, if_false, ga_n, bd1_s]
  rw [h3]
  exact gd_t (nar_of h2)
/-- blanks from s up to t, where a word or the end stands -/
theorem pX9_adv8 {tx : Nat → Int32} {n t : Nat} {we pl : Int32} (hT : Tx tx n) (ht : t ≤ n) (hs : t < n → tx t ≠ 32) : ∀ (d s f : Nat), s + d = t → d < f → (∀ j, s ≤ j → j < t → tx j = 32) → fnX9_advance_8 tx (nI n) f (nI s) we pl = fnX9_advance_45 tx (nI n) (nI t) we pl := by
  have hn := hT.1
  intro d
  induction d with
  | zero =>
    intro s f h1 h2 h3
    obtain ⟨f, rfl⟩ : ∃ g, f = g + 1 := ⟨f - 1, by omega⟩
    have e : s = t := by omega
    subst e
    rw [fnX9_advance_8]
    by_cases hh : n ≤ s
    · rw [if_pos ((nI_leI (by omega) (by omega)).mpr hh)]
    · rw [if_neg (fun z => hh ((nI_leI (by omega) (by omega)).mp z)), pX9_charAt hT (by omega), bd1_s, if_neg (hs (by omega))]
  | succ d ih =>
    intro s f h1 h2 h3
    obtain ⟨f, rfl⟩ : ∃ g, f = g + 1 := ⟨f - 1, by omega⟩
    rw [fnX9_advance_8, if_neg (fun z => absurd ((nI_leI (by omega) (by omega)).mp z) (by omega)), pX9_charAt hT (by omega), bd1_s, if_pos (h3 s (by omega) (by omega)), nI_1]
    exact ih (s + 1) f (by omega) (by omega) (fun j a b => h3 j (by omega) b)
/-- no blank from s up to t, where a blank or the end stands -/
theorem pX9_adv53 {tx : Nat → Int32} {n t : Nat} {ws pl : Int32} (hT : Tx tx n) (ht : t ≤ n) (hs : t < n → tx t = 32) : ∀ (d s f : Nat), s + d = t → d < f → (∀ j, s ≤ j → j < t → tx j ≠ 32) → fnX9_advance_53 tx (nI n) f ws (nI s) pl = fnX9_advance_90 tx (nI n) ws (nI t) pl := by
  have hn := hT.1
  intro d
  induction d with
  | zero =>
    intro s f h1 h2 h3
    obtain ⟨f, rfl⟩ : ∃ g, f = g + 1 := ⟨f - 1, by omega⟩
    have e : s = t := by omega
    subst e
    rw [fnX9_advance_53]
    by_cases hh : n ≤ s
    · rw [if_pos ((nI_leI (by omega) (by omega)).mpr hh)]
    · rw [if_neg (fun z => hh ((nI_leI (by omega) (by omega)).mp z)), pX9_charAt hT (by omega), bd1_s, if_pos (hs (by omega))]
  | succ d ih =>
    intro s f h1 h2 h3
    obtain ⟨f, rfl⟩ : ∃ g, f = g + 1 := ⟨f - 1, by omega⟩
    rw [fnX9_advance_53, if_neg (fun z => absurd ((nI_leI (by omega) (by omega)).mp z) (by omega)), pX9_charAt hT (by omega), bd1_s, if_neg (h3 s (by omega) (by omega)), nI_1]
    exact ih (s + 1) f (by omega) (by omega) (fun j a b => h3 j (by omega) b)
/-- where the word before word k ends -/
def pe (tt : Nat → Nat) (k : Nat) : Nat := if k = 0 then 0 else tt (k - 1)
/-- the words of the first n chars -/
def WS (tx : Nat → Int32) (n nw : Nat) (fr tt : Nat → Nat) : Prop :=
  (∀ k, k < nw → pe tt k ≤ fr k ∧ fr k < tt k ∧ tt k ≤ n ∧ (∀ j, pe tt k ≤ j → j < fr k → tx j = 32) ∧ (∀ j, fr k ≤ j → j < tt k → tx j ≠ 32) ∧ (tt k < n → tx (tt k) = 32)) ∧ pe tt nw ≤ n ∧ ∀ j, pe tt nw ≤ j → j < n → tx j = 32
theorem pX9_adv {tx : Nat → Int32} {n e s t : Nat} {ws pl : Int32} (hT : Tx tx n) (h1 : e ≤ s) (h2 : s ≤ t) (h3 : t ≤ n) (hb : ∀ j, e ≤ j → j < s → tx j = 32) (hw : ∀ j, s ≤ j → j < t → tx j ≠ 32) (hs : s < n → tx s ≠ 32) (ht : t < n → tx t = 32) : fnX9_advance tx (nI n) ws (nI e) pl = some (if s < t then 1 else 0, nI s, nI t, pl + 1) := by
  have hn := hT.1
  unfold fnX9_advance
  rw [pX9_adv8 hT (by omega) hs (s - e) e fuel_ (by omega) (by unfold fuel_; omega) hb]
  unfold fnX9_advance_45
  rw [pX9_adv53 hT h3 ht (t - s) s fuel_ (by omega) (by unfold fuel_; omega) hw]
  unfold fnX9_advance_90
  by_cases hh : s < t
  · rw [if_neg (fun z => absurd ((nI_leI (by omega) (by omega)).mp z) (by omega)), if_pos hh]
  · rw [if_pos ((nI_leI (by omega) (by omega)).mpr (by omega)), if_neg hh]
theorem adv_ws {tx : Nat → Int32} {n nw k : Nat} {fr tt : Nat → Nat} {ws pl : Int32} (hT : Tx tx n) (hW : WS tx n nw fr tt) (hk : k < nw) : fnX9_advance tx (nI n) ws (nI (pe tt k)) pl = some (1, nI (fr k), nI (tt k), pl + 1) := by
  obtain ⟨h1, h2, h3, h4, h5, h6⟩ := hW.1 k hk
  rw [pX9_adv hT h1 (by omega) h3 h4 h5 (fun _ => h5 _ (by omega) h2) h6, if_pos h2]
theorem adv_end {tx : Nat → Int32} {n nw : Nat} {fr tt : Nat → Nat} {ws pl : Int32} (hT : Tx tx n) (hW : WS tx n nw fr tt) : fnX9_advance tx (nI n) ws (nI (pe tt nw)) pl = some (0, nI n, nI n, pl + 1) := by
  rw [pX9_adv (s := n) (t := n) hT hW.2.1 (Nat.le_refl n) (Nat.le_refl n) hW.2.2 (fun j a b => absurd b (by omega)) (fun z => absurd z (by omega)) (fun z => absurd z (by omega)), if_neg (by omega)]
/-- a word's number: the class's place counts from -1 -/
theorem pe_s (tt : Nat → Nat) (k : Nat) : pe tt (k + 1) = tt k := by unfold pe; rw [if_neg (by omega), Nat.add_sub_cancel]
/-! the reference's split -/
theorem pe_lt {tt uu : Nat → Nat} {k : Nat} (h : ∀ j, j < k → tt j = uu j) : pe tt k = pe uu k := by
  unfold pe
  by_cases hk : k = 0
  · rw [if_pos hk, if_pos hk]
  · rw [if_neg hk, if_neg hk, h (k - 1) (by omega)]
theorem WS_le {tx : Nat → Int32} {n nw : Nat} {fr tt : Nat → Nat} (hW : WS tx n nw fr tt) {i k : Nat} (hk : k < nw) (hi : i ≤ k) : pe tt i ≤ pe tt k := by
  induction k with
  | zero => have : i = 0 := by omega
            subst this; exact Nat.le_refl _
  | succ k ih =>
    by_cases e : i = k + 1
    · subst e; exact Nat.le_refl _
    · obtain ⟨h1, h2, -⟩ := hW.1 k (by omega)
      have := ih (by omega) (by omega)
      rw [pe_s]; omega
def upn (f : Nat → Nat) (k v : Nat) : Nat → Nat := fun j => if j = k then v else f j
theorem upn_s (f : Nat → Nat) (k v : Nat) : upn f k v k = v := by simp [upn]
theorem upn_n (f : Nat → Nat) {k j : Nat} (v : Nat) (h : j ≠ k) : upn f k v j = f j := by simp [upn, h]
/-- a blank follows -/
theorem WS_blank {tx : Nat → Int32} {p w : Nat} {fr tt : Nat → Nat} (hW : WS tx p w fr tt) (h : tx p = 32) : WS tx (p + 1) w fr tt := by
  refine ⟨fun k hk => ?_, by have := hW.2.1; omega, fun j a b => ?_⟩
  · obtain ⟨h1, h2, h3, h4, h5, h6⟩ := hW.1 k hk
    refine ⟨h1, h2, by omega, h4, h5, fun z => ?_⟩
    by_cases e : tt k = p
    · rw [e]; exact h
    · exact h6 (by omega)
  · by_cases e : j = p
    · rw [e]; exact h
    · exact hW.2.2 j a (by omega)
/-- a new word begins -/
theorem WS_new {tx : Nat → Int32} {p w : Nat} {fr tt : Nat → Nat} (hW : WS tx p w fr tt) (h : tx p ≠ 32) (hb : p = 0 ∨ tx (p - 1) = 32) : WS tx (p + 1) (w + 1) (upn fr w p) (upn tt w (p + 1)) := by
  have hpe : ∀ k, k ≤ w → pe (upn tt w (p + 1)) k = pe tt k := fun k hk => pe_lt (fun j hj => upn_n _ _ (by omega))
  refine ⟨fun k hk => ?_, ?_, fun j a b => ?_⟩
  · by_cases e : k = w
    · subst e
      rw [upn_s, upn_s, hpe k (Nat.le_refl k)]
      refine ⟨hW.2.1, by omega, Nat.le_refl _, fun j a b => hW.2.2 j a b, fun j a b => ?_, fun z => absurd z (by omega)⟩
      have : j = p := by omega
      rw [this]; exact h
    · obtain ⟨h1, h2, h3, h4, h5, h6⟩ := hW.1 k (by omega)
      rw [upn_n _ _ e, upn_n _ _ e, hpe k (by omega)]
      refine ⟨h1, h2, by omega, h4, h5, fun z => ?_⟩
      by_cases e2 : tt k = p
      · exfalso
        rcases hb with hb | hb
        · omega
        · exact h5 (p - 1) (by omega) (by omega) hb
      · exact h6 (by omega)
  · rw [pe_s, upn_s]; exact Nat.le_refl _
  · rw [pe_s, upn_s] at a; omega
/-- a word goes on -/
theorem WS_on {tx : Nat → Int32} {p w : Nat} {fr tt : Nat → Nat} (hW : WS tx p w fr tt) (h : tx p ≠ 32) (h0 : p ≠ 0) (hb : tx (p - 1) ≠ 32) : ∃ v, w = v + 1 ∧ tt v = p ∧ WS tx (p + 1) w fr (upn tt v (p + 1)) := by
  have hq : pe tt w = p := by
    have := hW.2.1
    by_cases e : pe tt w ≤ p - 1
    · exact absurd (hW.2.2 (p - 1) e (by omega)) hb
    · omega
  have hw : w ≠ 0 := by
    intro e
    rw [e] at hq
    unfold pe at hq
    simp at hq
    omega
  obtain ⟨v, rfl⟩ : ∃ v, w = v + 1 := ⟨w - 1, by omega⟩
  rw [pe_s] at hq
  have hpe : ∀ k, k ≤ v → pe (upn tt v (p + 1)) k = pe tt k := fun k hk => pe_lt (fun j hj => upn_n _ _ (by omega))
  refine ⟨v, rfl, hq, fun k hk => ?_, ?_, fun j a b => ?_⟩
  · rw [hpe k (by omega)]
    obtain ⟨h1, h2, h3, h4, h5, h6⟩ := hW.1 k hk
    by_cases e : k = v
    · subst e
      rw [upn_s]
      refine ⟨h1, by omega, Nat.le_refl _, h4, fun j a b => ?_, fun z => absurd z (by omega)⟩
      by_cases e2 : j = p
      · rw [e2]; exact h
      · exact h5 j a (by omega)
    · rw [upn_n _ _ e]
      refine ⟨h1, h2, by omega, h4, h5, fun z => ?_⟩
      have hle := WS_le hW (i := k + 1) (k := v) (by omega) (by omega)
      obtain ⟨g1, g2, -⟩ := hW.1 v (by omega)
      rw [pe_s] at hle
      exact h6 (by omega)
  · rw [pe_s, upn_s]; exact Nat.le_refl _
  · rw [pe_s, upn_s] at a; omega
/-- the reference's loop over the chars -/
theorem pX12_split7 {tx : Nat → Int32} {n : Nat} (hn : n ≤ 300) : ∀ (d p w f : Nat) (F G : Nat → Int32) (fr tt : Nat → Nat), p + d = n → d < f → WS tx p w fr tt → (∀ k, k < w → F k = nI (fr k) ∧ G k = nI (tt k)) → 2 * w ≤ p + 1 → (p ≠ 0 → tx (p - 1) = 32 → 2 * w ≤ p) →
    ∃ (F' G' : Nat → Int32) (fr' tt' : Nat → Nat) (w' : Nat), fnX12_split_7 tx (nI n) f (nI p) F G (nI w) = some (F', G', nI w') ∧ WS tx n w' fr' tt' ∧ (∀ k, k < w' → F' k = nI (fr' k) ∧ G' k = nI (tt' k)) ∧ w' ≤ 150 := by
  intro d
  induction d with
  | zero =>
    intro p w f F G fr tt h1 h2 hW hF hw _
    obtain ⟨f, rfl⟩ : ∃ g, f = g + 1 := ⟨f - 1, by omega⟩
    have e : p = n := by omega
    subst e
    rw [fnX12_split_7, if_pos ((nI_leI (by omega) (by omega)).mpr (Nat.le_refl _))]
    exact ⟨F, G, fr, tt, w, rfl, hW, hF, by omega⟩
  | succ d ih =>
    intro p w f F G fr tt h1 h2 hW hF hw hw2
    obtain ⟨f, rfl⟩ : ∃ g, f = g + 1 := ⟨f - 1, by omega⟩
    rw [fnX12_split_7, if_neg (fun z => absurd ((nI_leI (by omega) (by omega)).mp z) (by omega)), ga_n (by omega) (by omega), bd1_s]
    by_cases hb : tx p = 32
    · rw [if_pos hb]
      unfold fnX12_split_77
      rw [nI_1]
      refine ih (p + 1) w f F G fr tt (by omega) (by omega) (WS_blank hW hb) hF (by omega) (fun _ _ => by omega)
    · rw [if_neg hb]
      have new : (p = 0 ∨ tx (p - 1) = 32) → ∃ (F' G' : Nat → Int32) (fr' tt' : Nat → Nat) (w' : Nat), fnX12_split_43 tx (nI n) (fnX12_split_7 tx (nI n) f) (nI p) F G (nI w) = some (F', G', nI w') ∧ WS tx n w' fr' tt' ∧ (∀ k, k < w' → F' k = nI (fr' k) ∧ G' k = nI (tt' k)) ∧ w' ≤ 150 := by
        intro hh
        have hwp : 2 * w ≤ p := by
          rcases hh with hh | hh
          · omega
          · by_cases e0 : p = 0
            · omega
            · exact hw2 e0 hh
        unfold fnX12_split_43
        rw [sa_n (by omega) (by omega), bd1_s]
        unfold fnX12_split_63
        rw [nI_1, nI_pred, sa_n (by omega) (by omega), bd1_s, nI_1]
        unfold fnX12_split_77
        rw [nI_1]
        refine ih (p + 1) (w + 1) f _ _ (upn fr w p) (upn tt w (p + 1)) (by omega) (by omega) (WS_new hW hb hh) (fun k hk => ?_) (by omega) (fun _ z => absurd z hb)
        by_cases e : k = w
        · subst e
          rw [pk_us, pk_us, upn_s, upn_s]
          exact ⟨rfl, rfl⟩
        · rw [pk_un e, pk_un e, upn_n _ _ e, upn_n _ _ e]
          exact hF k (by omega)
      by_cases h0 : p = 0
      · rw [if_pos (by rw [h0]; rfl)]
        exact new (Or.inl h0)
      · rw [if_neg (ne_L 0 0 h0)]
        have e1 : nI p - 1 = nI (p - 1) := pk_sub (a := p) (b := 1) (by omega)
        rw [e1, ga_n (by omega) (by omega), bd1_s]
        by_cases hb1 : tx (p - 1) = 32
        · rw [if_pos hb1]
          exact new (Or.inr hb1)
        · rw [if_neg hb1]
          obtain ⟨v, rfl, hv, hW2⟩ := WS_on hW hb h0 hb1
          unfold fnX12_split_63
          rw [nI_pred, sa_n (by omega) (by omega), bd1_s, nI_1]
          unfold fnX12_split_77
          rw [nI_1]
          refine ih (p + 1) (v + 1) f _ _ fr (upn tt v (p + 1)) (by omega) (by omega) hW2 (fun k hk => ?_) (by omega) (fun _ z => absurd z hb)
          by_cases e : k = v
          · subst e
            rw [pk_us, upn_s]
            exact ⟨(hF k (by omega)).1, rfl⟩
          · rw [pk_un e, upn_n _ _ e]
            exact hF k (by omega)
theorem pX12_split {tx : Nat → Int32} {n : Nat} (hn : n ≤ 300) (F G : Nat → Int32) (w : Int32) : ∃ (F' G' : Nat → Int32) (fr' tt' : Nat → Nat) (w' : Nat), fnX12_split tx (nI n) F G w = some (F', G', nI w') ∧ WS tx n w' fr' tt' ∧ (∀ k, k < w' → F' k = nI (fr' k) ∧ G' k = nI (tt' k)) ∧ w' ≤ 150 := by
  unfold fnX12_split
  refine pX12_split7 hn n 0 0 fuel_ F G (fun _ => 0) (fun _ => 0) (by omega) (by unfold fuel_; omega) ⟨fun k hk => absurd hk (by omega), by unfold pe; simp, fun j _ b => absurd b (by omega)⟩ (fun k hk => absurd hk (by omega)) (by omega) (fun z => absurd rfl z)
/-! numbers and keys of a word: from q on, k chars -/
def dgs (tx : Nat → Int32) : Nat → Nat → Int32
  | 0, _ => 1
  | k + 1, q => if tx q < 48 then 0 else if tx q ≤ 57 then dgs tx k (q + 1) else 0
def kyf (tx : Nat → Int32) : Nat → Nat → Int64 → Int64
  | 0, _, a => a
  | k + 1, q, a => kyf tx k (q + 1) ((a * 128) + (tx q).toInt64)
def nvf (tx : Nat → Int32) : Nat → Nat → Int32 → Int32
  | 0, _, a => a
  | k + 1, q, a => nvf tx k (q + 1) ((a * 10) + (tx q - 48))
theorem pX9_dgs {tx : Nat → Int32} {n e : Nat} {s : Int32} (hT : Tx tx n) (he : e ≤ n) : ∀ (k q f : Nat), q + k = e → k < f → fnX9_isNumber_28 tx (nI n) s (nI e) f (nI q) = some (dgs tx k q) := by
  have hn := hT.1
  intro k
  induction k with
  | zero =>
    intro q f h1 h2
    obtain ⟨f, rfl⟩ : ∃ g, f = g + 1 := ⟨f - 1, by omega⟩
    rw [fnX9_isNumber_28, if_pos ((nI_leI (by omega) (by omega)).mpr (by omega)), dgs]
  | succ k ih =>
    intro q f h1 h2
    obtain ⟨f, rfl⟩ : ∃ g, f = g + 1 := ⟨f - 1, by omega⟩
    rw [fnX9_isNumber_28, if_neg (fun z => absurd ((nI_leI (by omega) (by omega)).mp z) (by omega)), pX9_charAt hT (by omega), bd1_s, dgs]
    by_cases h3 : tx q < 48
    · rw [if_pos h3, if_pos h3]
    · rw [if_neg h3, if_neg h3, bd1_s]
      by_cases h4 : tx q ≤ 57
      · rw [if_pos h4, if_pos h4, nI_1]
        exact ih (q + 1) f (by omega) (by omega)
      · rw [if_neg h4, if_neg h4]
theorem pX12_dgs {tx F G : Nat → Int32} {e w : Nat} (hw : w < 150) (he : e ≤ 300) (hG : G w = nI e) : ∀ (k q f : Nat), q + k = e → k < f → fnX12_isNumber_63 tx F G f (nI w) (nI q) = some (dgs tx k q) := by
  intro k
  induction k with
  | zero =>
    intro q f h1 h2
    obtain ⟨f, rfl⟩ : ∃ g, f = g + 1 := ⟨f - 1, by omega⟩
    rw [fnX12_isNumber_63, ga_n hw (by omega), bd1_s, hG, if_pos ((nI_leI (by omega) (by omega)).mpr (by omega)), dgs]
  | succ k ih =>
    intro q f h1 h2
    obtain ⟨f, rfl⟩ : ∃ g, f = g + 1 := ⟨f - 1, by omega⟩
    rw [fnX12_isNumber_63, ga_n hw (by omega), bd1_s, hG, if_neg (fun z => absurd ((nI_leI (by omega) (by omega)).mp z) (by omega)), ga_n (by omega) (by omega), bd1_s, dgs]
    unfold fnX12_digit
    by_cases h3 : tx q < 48
    · rw [if_pos h3, if_pos h3, bd1_s, if_pos rfl]
    · rw [if_neg h3, if_neg h3]
      by_cases h4 : tx q ≤ 57
      · rw [if_neg (fun z => absurd (Int32.lt_of_lt_of_le z h4) Int32.lt_irrefl), bd1_s, if_neg (by decide), if_pos h4, nI_1]
        exact ih (q + 1) f (by omega) (by omega)
      · rw [if_pos (Int32.not_le.mp h4), bd1_s, if_pos rfl, if_neg h4]
theorem pX9_kyf {tx : Nat → Int32} {n e : Nat} {s : Int32} (hT : Tx tx n) (he : e ≤ n) : ∀ (k q f : Nat) (a : Int64), q + k = e → k < f → fnX9_wordKey_25 tx (nI n) s (nI e) f a (nI q) = some (kyf tx k q a) := by
  have hn := hT.1
  intro k
  induction k with
  | zero =>
    intro q f a h1 h2
    obtain ⟨f, rfl⟩ : ∃ g, f = g + 1 := ⟨f - 1, by omega⟩
    rw [fnX9_wordKey_25, if_pos ((nI_leI (by omega) (by omega)).mpr (by omega)), kyf]
  | succ k ih =>
    intro q f a h1 h2
    obtain ⟨f, rfl⟩ : ∃ g, f = g + 1 := ⟨f - 1, by omega⟩
    rw [fnX9_wordKey_25, if_neg (fun z => absurd ((nI_leI (by omega) (by omega)).mp z) (by omega)), pX9_charAt hT (by omega), bd1_s, kyf, nI_1]
    exact ih (q + 1) f _ (by omega) (by omega)
theorem pX12_kyf {tx F G : Nat → Int32} {e w : Nat} (hw : w < 150) (he : e ≤ 300) (hG : G w = nI e) : ∀ (k q f : Nat) (a : Int64), q + k = e → k < f → fnX12_spelled_32 tx F G f (nI w) a (nI q) = some (kyf tx k q a) := by
  intro k
  induction k with
  | zero =>
    intro q f a h1 h2
    obtain ⟨f, rfl⟩ : ∃ g, f = g + 1 := ⟨f - 1, by omega⟩
    rw [fnX12_spelled_32, ga_n hw (by omega), bd1_s, hG, if_pos ((nI_leI (by omega) (by omega)).mpr (by omega)), kyf]
  | succ k ih =>
    intro q f a h1 h2
    obtain ⟨f, rfl⟩ : ∃ g, f = g + 1 := ⟨f - 1, by omega⟩
    rw [fnX12_spelled_32, ga_n hw (by omega), bd1_s, hG, if_neg (fun z => absurd ((nI_leI (by omega) (by omega)).mp z) (by omega)), ga_n (by omega) (by omega), bd1_s, kyf, nI_1]
    exact ih (q + 1) f _ (by omega) (by omega)
theorem rg10 (a t : Int32) : ((10 * a) + t) - 48 = (a * 10) + (t - 48) := by
  rw [Int32.mul_comm 10 a, Int32.sub_eq_add_neg, Int32.sub_eq_add_neg, Int32.add_assoc]
theorem pX9_nvf {tx : Nat → Int32} {n e : Nat} {s x1 : Int32} (hT : Tx tx n) (he : e ≤ n) : ∀ (k q f : Nat) (a : Int32), q + k = e → k < f → fnX9_numberValue_9 tx (nI n) s (nI e) f x1 a (nI q) = some (if x1 ≤ s then nvf tx k q a else -(nvf tx k q a)) := by
  have hn := hT.1
  intro k
  induction k with
  | zero =>
    intro q f a h1 h2
    obtain ⟨f, rfl⟩ : ∃ g, f = g + 1 := ⟨f - 1, by omega⟩
    rw [fnX9_numberValue_9, if_pos ((nI_leI (by omega) (by omega)).mpr (by omega)), nvf]
    by_cases h : x1 ≤ s
    · rw [if_pos h, if_pos h]
    · rw [if_neg h, if_neg h]
  | succ k ih =>
    intro q f a h1 h2
    obtain ⟨f, rfl⟩ : ∃ g, f = g + 1 := ⟨f - 1, by omega⟩
    rw [fnX9_numberValue_9, if_neg (fun z => absurd ((nI_leI (by omega) (by omega)).mp z) (by omega)), pX9_charAt hT (by omega), bd1_s, nvf, nI_1]
    exact ih (q + 1) f _ (by omega) (by omega)
theorem pX12_nvf {tx F G : Nat → Int32} {e w : Nat} {x2 : Int32} (hw : w < 150) (he : e ≤ 300) (hG : G w = nI e) : ∀ (k q f : Nat) (a : Int32), q + k = e → k < f → fnX12_number_47 tx F G f (nI w) x2 a (nI q) = some (if x2 = 0 then nvf tx k q a else -(nvf tx k q a)) := by
  intro k
  induction k with
  | zero =>
    intro q f a h1 h2
    obtain ⟨f, rfl⟩ : ∃ g, f = g + 1 := ⟨f - 1, by omega⟩
    rw [fnX12_number_47, ga_n hw (by omega), bd1_s, hG, if_pos ((nI_leI (by omega) (by omega)).mpr (by omega)), nvf]
    by_cases h : x2 = 0
    · rw [if_pos h, if_pos h]
    · rw [if_neg h, if_neg h]
  | succ k ih =>
    intro q f a h1 h2
    obtain ⟨f, rfl⟩ : ∃ g, f = g + 1 := ⟨f - 1, by omega⟩
    rw [fnX12_number_47, ga_n hw (by omega), bd1_s, hG, if_neg (fun z => absurd ((nI_leI (by omega) (by omega)).mp z) (by omega)), ga_n (by omega) (by omega), bd1_s, nvf, nI_1, rg10]
    exact ih (q + 1) f _ (by omega) (by omega)
/-- the first digit's place -/
def fd (tx : Nat → Int32) (s : Nat) : Nat := if tx s = 45 then s + 1 else s
def isn (tx : Nat → Int32) (s e : Nat) : Int32 := if e ≤ fd tx s then 0 else if e - fd tx s ≤ 9 then dgs tx (e - fd tx s) (fd tx s) else 0
def nmv (tx : Nat → Int32) (s e : Nat) : Int32 := if tx s = 45 then -(nvf tx (e - (s + 1)) (s + 1) 0) else nvf tx (e - s) s 0
theorem fd_le {tx : Nat → Int32} {s e : Nat} (h : s < e) : fd tx s ≤ e ∧ s ≤ fd tx s := by
  unfold fd
  by_cases h1 : tx s = 45
  · rw [if_pos h1]; omega
  · rw [if_neg h1]; omega
theorem pX9_fd {tx : Nat → Int32} {n s : Nat} (hT : Tx tx n) (hs : s < n) : fnX9_firstDigit tx (nI n) (nI s) = some (nI (fd tx s)) := by
  unfold fnX9_firstDigit fd
  rw [pX9_charAt hT hs, bd1_s]
  by_cases h1 : tx s = 45
  · rw [if_pos h1, if_pos h1, nI_1]
  · rw [if_neg h1, if_neg h1]
theorem pX9_isNumber {tx : Nat → Int32} {n s e : Nat} (hT : Tx tx n) (hs : s < e) (he : e ≤ n) : fnX9_isNumber tx (nI n) (nI s) (nI e) = some (isn tx s e) := by
  have hn := hT.1
  obtain ⟨h1, h2⟩ := fd_le (tx := tx) hs
  unfold fnX9_isNumber isn
  rw [pX9_fd hT (by omega), bd1_s]
  by_cases h3 : e ≤ fd tx s
  · rw [if_pos ((nI_leI (by omega) (by omega)).mpr h3), if_pos h3]
  · rw [if_neg (fun z => h3 ((nI_leI (by omega) (by omega)).mp z)), if_neg h3, pk_sub (by omega)]
    by_cases h4 : e - fd tx s ≤ 9
    · rw [if_pos (lR_t 9 9 h4), if_pos h4]
      exact pX9_dgs hT he _ _ fuel_ (by omega) (by unfold fuel_; omega)
    · rw [if_neg (lR_f 9 9 h4), if_neg h4]
theorem pX12_isNumber_33 {tx F G : Nat → Int32} {e w q : Nat} (hw : w < 150) (he : e ≤ 300) (hG : G w = nI e) (hq : q ≤ e) : fnX12_isNumber_33 tx F G (nI w) (nI q) = some (if e ≤ q then 0 else if e - q ≤ 9 then dgs tx (e - q) q else 0) := by
  unfold fnX12_isNumber_33
  rw [ga_n hw (by omega), bd1_s, hG, pk_sub hq, bd1_s]
  by_cases h3 : e ≤ q
  · rw [if_pos (sR_t 1 1 (by omega)), if_pos h3]
  · rw [if_neg (sR_f 1 1 (by omega)), if_neg h3, pk_sub hq]
    by_cases h4 : e - q ≤ 9
    · rw [if_pos (lR_t 9 9 h4), if_pos h4]
      exact pX12_dgs hw he hG _ _ fuel_ (by omega) (by unfold fuel_; omega)
    · rw [if_neg (lR_f 9 9 h4), if_neg h4]
theorem pX12_isNumber {tx F G : Nat → Int32} {s e w : Nat} (hw : w < 150) (hs : s < e) (he : e ≤ 300) (hF : F w = nI s) (hG : G w = nI e) : fnX12_isNumber tx F G (nI w) = some (isn tx s e) := by
  obtain ⟨h1, h2⟩ := fd_le (tx := tx) hs
  unfold fnX12_isNumber isn
  rw [ga_n hw (by omega), bd1_s, hF, ga_n (by omega) (by omega), bd1_s, bd1_s, bd1_s]
  by_cases h3 : tx s = 45
  · rw [if_pos h3, nI_1, pX12_isNumber_33 hw he hG (by omega), show fd tx s = s + 1 from if_pos h3]
  · rw [if_neg h3, pX12_isNumber_33 hw he hG (by omega), show fd tx s = s from if_neg h3]
theorem pX9_numberValue {tx : Nat → Int32} {n s e : Nat} (hT : Tx tx n) (hs : s < e) (he : e ≤ n) : fnX9_numberValue tx (nI n) (nI s) (nI e) = some (nmv tx s e) := by
  have hn := hT.1
  obtain ⟨h1, h2⟩ := fd_le (tx := tx) hs
  unfold fnX9_numberValue nmv
  rw [pX9_fd hT (by omega), bd1_s, pX9_nvf hT he (e - fd tx s) _ fuel_ 0 (by omega) (by unfold fuel_; omega)]
  by_cases h3 : tx s = 45
  · have e1 : fd tx s = s + 1 := if_pos h3
    rw [if_pos h3, e1, if_neg (fun z => absurd ((nI_leI (by omega) (by omega)).mp z) (by omega))]
  · have e1 : fd tx s = s := if_neg h3
    rw [if_neg h3, e1, if_pos ((nI_leI (by omega) (by omega)).mpr (Nat.le_refl _))]
theorem pX12_number {tx F G : Nat → Int32} {s e w : Nat} (hw : w < 150) (hs : s < e) (he : e ≤ 300) (hF : F w = nI s) (hG : G w = nI e) : fnX12_number tx F G (nI w) = some (nmv tx s e) := by
  unfold fnX12_number nmv
  rw [ga_n hw (by omega), bd1_s, hF, ga_n (by omega) (by omega), bd1_s]
  unfold fnX12_number_21
  rw [ga_n hw (by omega), hF]
  unfold fnX12_number_45
  by_cases h3 : tx s = 45
  · rw [if_pos h3, if_pos h3, if_neg (by decide), bd1_s, nI_1, pX12_nvf hw he hG (e - (s + 1)) _ fuel_ 0 (by omega) (by unfold fuel_; omega), if_neg (by decide)]
  · rw [if_neg h3, if_neg h3, if_pos rfl, bd1_s, pX12_nvf hw he hG (e - s) _ fuel_ 0 (by omega) (by unfold fuel_; omega), if_pos rfl]
/-- the word's key, and its spelling -/
def wk (tx : Nat → Int32) (s e : Nat) : Int64 := if e - s ≤ 7 then kyf tx (e - s) s 0 else -1
def sp (tx : Nat → Int32) (s e : Nat) : Int64 := if e - s ≤ 9 then kyf tx (e - s) s 0 else -1
theorem pX9_wordKey {tx : Nat → Int32} {n s e : Nat} (hT : Tx tx n) (hs : s < e) (he : e ≤ n) : fnX9_wordKey tx (nI n) (nI s) (nI e) = some (wk tx s e) := by
  have hn := hT.1
  unfold fnX9_wordKey wk
  rw [pk_sub (by omega)]
  by_cases h4 : e - s ≤ 7
  · rw [if_pos (lR_t 7 7 h4), if_pos h4]
    exact pX9_kyf hT he _ _ fuel_ 0 (by omega) (by unfold fuel_; omega)
  · rw [if_neg (lR_f 7 7 h4), if_neg h4]
theorem pX12_spelled {tx F G : Nat → Int32} {s e w : Nat} (hw : w < 150) (hs : s < e) (he : e ≤ 300) (hF : F w = nI s) (hG : G w = nI e) : fnX12_spelled tx F G (nI w) = some (sp tx s e) := by
  unfold fnX12_spelled sp
  rw [ga_n hw (by omega), bd1_s, ga_n hw (by omega), bd1_s, hF, hG, pk_sub (by omega), bd1_s]
  by_cases h4 : e - s ≤ 9
  · rw [if_pos (lR_t 9 9 h4), if_pos h4]
    exact pX12_kyf hw he hG _ _ fuel_ 0 (by omega) (by unfold fuel_; omega)
  · rw [if_neg (lR_f 9 9 h4), if_neg h4]
