/-! the reference's scans over a body: behind, back; D is the number of open structures before a word -/
/-- the word at q is the control word c -/
def isC (kd wt : Nat → Int32) (q c : Nat) : Prop := kd q = 2 ∧ wt q = nI c
def opQ (kd wt : Nat → Int32) (q : Nat) : Prop := isC kd wt q 0 ∨ isC kd wt q 3 ∨ isC kd wt q 8
def clQ (kd wt : Nat → Int32) (q : Nat) : Prop := isC kd wt q 2 ∨ isC kd wt q 4 ∨ isC kd wt q 5 ∨ isC kd wt q 7 ∨ isC kd wt q 9
theorem isC_inj {kd wt : Nat → Int32} {q a b : Nat} (ha : a < 20) (hb : b < 20) (h1 : isC kd wt q a) (h2 : isC kd wt q b) : a = b := (nI_eq (by omega) (by omega)).mp (h1.2.symm.trans h2.2)
section
variable {ms mz kd wt : Nat → Int32} {d s p c : Nat}
theorem pX12_is (hd : d < 20) (hs : ms d = nI s) (hp : s + p < 350) : (isC kd wt (s + p) c → fnX12_is ms kd wt (nI d) (nI p) (nI c) = some 1) ∧ (¬ isC kd wt (s + p) c → fnX12_is ms kd wt (nI d) (nI p) (nI c) = some 0) := by
  have e : fnX12_is ms kd wt (nI d) (nI p) (nI c) = if kd (s + p) = 2 then (if wt (s + p) = nI c then some 1 else some 0) else some 0 := by
    unfold fnX12_is fnX12_kindAt
    rw [ga_n hd (by omega), bd1_s, hs, nI_add, ga_n hp (by omega), bd1_s, bd1_s, bd1_s, nI_add, ga_n hp (by omega), bd1_s]
  rw [e]
  unfold isC
  by_cases h1 : kd (s + p) = 2
  · rw [if_pos h1]
    by_cases h2 : wt (s + p) = nI c
    · rw [if_pos h2]; exact ⟨fun _ => rfl, fun z => absurd ⟨h1, h2⟩ z⟩
    · rw [if_neg h2]; exact ⟨fun z => absurd z.2 h2, fun _ => rfl⟩
  · rw [if_neg h1]; exact ⟨fun z => absurd z.1 h1, fun _ => rfl⟩
theorem pX12_opens (hd : d < 20) (hs : ms d = nI s) (hp : s + p < 350) : (opQ kd wt (s + p) → fnX12_opens ms kd wt (nI d) (nI p) = some 1) ∧ (¬ opQ kd wt (s + p) → fnX12_opens ms kd wt (nI d) (nI p) = some 0) := by
  unfold fnX12_opens opQ
  obtain ⟨a1, a2⟩ := pX12_is (kd := kd) (wt := wt) (c := 0) hd hs hp
  obtain ⟨b1, b2⟩ := pX12_is (kd := kd) (wt := wt) (c := 3) hd hs hp
  obtain ⟨c1, c2⟩ := pX12_is (kd := kd) (wt := wt) (c := 8) hd hs hp
  rw [show (0 : Int32) = nI 0 from rfl, show (3 : Int32) = nI 3 from rfl, show (8 : Int32) = nI 8 from rfl]
  by_cases h1 : isC kd wt (s + p) 0
  · rw [a1 h1, bd1_s, if_neg (by decide)]; exact ⟨fun _ => rfl, fun z => absurd (Or.inl h1) z⟩
  · rw [a2 h1, bd1_s, if_pos (by decide)]
    by_cases h2 : isC kd wt (s + p) 3
    · rw [b1 h2, bd1_s, if_neg (by decide)]; exact ⟨fun _ => rfl, fun z => absurd (Or.inr (Or.inl h2)) z⟩
    · rw [b2 h2, bd1_s, if_pos (by decide)]
      by_cases h3 : isC kd wt (s + p) 8
      · rw [c1 h3, bd1_s, if_neg (by decide)]; exact ⟨fun _ => rfl, fun z => absurd (Or.inr (Or.inr h3)) z⟩
      · rw [c2 h3, bd1_s, if_pos (by decide)]; exact ⟨fun z => absurd z (by simp [h1, h2, h3]), fun _ => rfl⟩
theorem pX12_closes (hd : d < 20) (hs : ms d = nI s) (hp : s + p < 350) : (clQ kd wt (s + p) → fnX12_closes ms kd wt (nI d) (nI p) = some 1) ∧ (¬ clQ kd wt (s + p) → fnX12_closes ms kd wt (nI d) (nI p) = some 0) := by
  unfold fnX12_closes clQ
  obtain ⟨a1, a2⟩ := pX12_is (kd := kd) (wt := wt) (c := 2) hd hs hp
  obtain ⟨b1, b2⟩ := pX12_is (kd := kd) (wt := wt) (c := 4) hd hs hp
  obtain ⟨c1, c2⟩ := pX12_is (kd := kd) (wt := wt) (c := 5) hd hs hp
  obtain ⟨d1, d2⟩ := pX12_is (kd := kd) (wt := wt) (c := 7) hd hs hp
  obtain ⟨e1, e2⟩ := pX12_is (kd := kd) (wt := wt) (c := 9) hd hs hp
  rw [show (2 : Int32) = nI 2 from rfl, show (4 : Int32) = nI 4 from rfl, show (5 : Int32) = nI 5 from rfl, show (7 : Int32) = nI 7 from rfl, show (9 : Int32) = nI 9 from rfl]
  by_cases h1 : isC kd wt (s + p) 2
  · rw [a1 h1, bd1_s, if_neg (by decide)]; exact ⟨fun _ => rfl, fun z => absurd (Or.inl h1) z⟩
  · rw [a2 h1, bd1_s, if_pos (by decide)]
    by_cases h2 : isC kd wt (s + p) 4
    · rw [b1 h2, bd1_s, if_neg (by decide)]; exact ⟨fun _ => rfl, fun z => absurd (Or.inr (Or.inl h2)) z⟩
    · rw [b2 h2, bd1_s, if_pos (by decide)]
      by_cases h3 : isC kd wt (s + p) 5
      · rw [c1 h3, bd1_s, if_neg (by decide)]; exact ⟨fun _ => rfl, fun z => absurd (Or.inr (Or.inr (Or.inl h3))) z⟩
      · rw [c2 h3, bd1_s, if_pos (by decide)]
        by_cases h4 : isC kd wt (s + p) 7
        · rw [d1 h4, bd1_s, if_neg (by decide)]; exact ⟨fun _ => rfl, fun z => absurd (Or.inr (Or.inr (Or.inr (Or.inl h4)))) z⟩
        · rw [d2 h4, bd1_s, if_pos (by decide)]
          by_cases h5 : isC kd wt (s + p) 9
          · rw [e1 h5, bd1_s, if_neg (by decide)]; exact ⟨fun _ => rfl, fun z => absurd (Or.inr (Or.inr (Or.inr (Or.inr h5)))) z⟩
          · rw [e2 h5, bd1_s, if_pos (by decide)]; exact ⟨fun z => absurd z (by simp [h1, h2, h3, h4, h5]), fun _ => rfl⟩
/-- how D goes on at word q of the body that begins at s -/
def DS (kd wt : Nat → Int32) (s : Nat) (D : Nat → Nat) (q : Nat) : Prop := (opQ kd wt (s + q) → D (q + 1) = D q + 1) ∧ (clQ kd wt (s + q) → D (q + 1) + 1 = D q) ∧ (¬ opQ kd wt (s + q) → ¬ clQ kd wt (s + q) → D (q + 1) = D q)
theorem op_cl {q : Nat} (h1 : opQ kd wt q) (h2 : clQ kd wt q) : False := by
  rcases h1 with h | h | h <;> rcases h2 with g | g | g | g | g <;> exact absurd (isC_inj (by omega) (by omega) h g) (by decide)
/-- a step of the scan forwards: the level goes on with D -/
theorem b57 {D : Nat → Nat} {K : Int32 → Int32 → Int32 → Int32 → Int32 → Option Int32} {x3 x6 : Int32} {q b : Nat} (hd : d < 20) (hs : ms d = nI s) (hq : s + q < 350) (hD : DS kd wt s D q) (hb : b ≤ D q) (hm : D q ≤ 300) : fnX12_behind_57 ms mz kd wt K (nI d) x3 (nI (1 + D q - b)) (nI q) x6 = K (nI d) x3 (nI (1 + D (q + 1) - b)) (nI q) (x6 + 1) := by
  obtain ⟨h1, h2, h3⟩ := hD
  obtain ⟨a1, a2⟩ := pX12_opens (kd := kd) (wt := wt) hd hs hq
  obtain ⟨c1, c2⟩ := pX12_closes (kd := kd) (wt := wt) hd hs hq
  unfold fnX12_behind_57
  by_cases ho : opQ kd wt (s + q)
  · have hc : ¬ clQ kd wt (s + q) := fun z => op_cl ho z
    rw [a1 ho, bd1_s, c2 hc, bd1_s, h1 ho]
    congr 1
    rw [show (1 : Int32) = nI 1 from rfl, show (0 : Int32) = nI 0 from rfl, nI_add, pk_sub (by omega)]
    congr 1
    omega
  · rw [a2 ho, bd1_s]
    by_cases hc : clQ kd wt (s + q)
    · have := h2 hc
      rw [c1 hc, bd1_s]
      congr 1
      rw [show (1 : Int32) = nI 1 from rfl, show (0 : Int32) = nI 0 from rfl, nI_add, pk_sub (by omega)]
      congr 1
      omega
    · rw [c2 hc, bd1_s, h3 ho hc]
      congr 1
      rw [show (0 : Int32) = nI 0 from rfl, nI_add, pk_sub (by omega)]
      congr 1
/-- the scan forwards from word p: it ends at word r, the first that brings D below b = D (p + 1), or, if asked, the first else at that level -/
theorem bh_loop {D : Nat → Nat} {fl : Int32} {z r : Nat} (hd : d < 20) (hs : ms d = nI s) (hz : mz d = nI z) (hr : r < z) (hz2 : s + z ≤ 200) (hfl : fl = 0 ∨ fl = 1) (hD : ∀ q, p < q → q ≤ r → DS kd wt s D q) (hge : ∀ q, p < q → q ≤ r → D (p + 1) ≤ D q ∧ D q ≤ 300) (hel : fl = 1 → ∀ q, p < q → q < r → ¬ (D q = D (p + 1) ∧ isC kd wt (s + q) 1)) (hend : D r = D (p + 1) ∧ ((fl = 1 ∧ isC kd wt (s + r) 1) ∨ (clQ kd wt (s + r)))) :
    ∀ (e q f : Nat), q + e = r → p ≤ q → e + 2 ≤ f → p < r → (p < q → True) → ∀ (lv : Nat), lv = 1 + D (q + 1) - D (p + 1) → q < r → fnX12_behind_9 ms mz kd wt f (nI d) fl (nI lv) (nI q) (nI (q - p)) = some (nI (r + 1)) := by
  intro e
  induction e with
  | zero => intro q f h1 h2 h3 h4 _ lv _ h5; omega
  | succ e ih =>
    intro q f h1 h2 h3 h4 _ lv hlv h5
    obtain ⟨f, rfl⟩ : ∃ g, f = g + 1 := ⟨f - 1, by omega⟩
    have hge1 := hge (q + 1) (by omega) (by omega)
    have hlv1 : 1 ≤ lv := by omega
    rw [fnX12_behind_9, ga_n hd (by omega), bd1_s, hz, if_neg (fun y => absurd ((nI_leI (by omega) (by omega)).mp y) (by omega)), if_neg (nI_nle (by omega) (by omega)), nI_1, nI_1]
    -- what follows when no else is met here
    have go : fnX12_behind_57 ms mz kd wt (fnX12_behind_9 ms mz kd wt f) (nI d) fl (nI lv) (nI (q + 1)) (nI (q - p)) = some (nI (r + 1)) ∨ (q + 1 = r ∧ fl = 1 ∧ isC kd wt (s + r) 1) := by
      by_cases hq : q + 1 = r
      · rcases hend.2 with h | h
        · exact Or.inr ⟨hq, h.1, h.2⟩
        · left
          rw [hlv, b57 (D := D) hd hs (by omega) (hD (q + 1) (by omega) (by omega)) hge1.1 hge1.2]
          have hcl := (hD (q + 1) (by omega) (by omega)).2.1 (by rw [hq]; exact h)
          obtain ⟨f, rfl⟩ : ∃ g, f = g + 1 := ⟨f - 1, by omega⟩
          have e0 : 1 + D (q + 1 + 1) - D (p + 1) = 0 := by rw [hq] at hcl ⊢; omega
          rw [e0, fnX12_behind_9, ga_n hd (by omega), bd1_s, hz]
          have e83 : fnX12_behind_83 ms mz kd wt (nI (q + 1)) = some (nI (r + 1)) := by
            unfold fnX12_behind_83
            rw [nI_1, hq]
          by_cases hh : nI z ≤ nI (q - p) + 1
          · rw [if_pos hh, e83]
          · rw [if_neg hh, if_pos (by decide), e83]
      · left
        rw [hlv, b57 (D := D) hd hs (by omega) (hD (q + 1) (by omega) (by omega)) hge1.1 hge1.2, nI_1, show q - p + 1 = q + 1 - p by omega]
        exact ih (q + 1) f (by omega) (by omega) (by omega) h4 (fun _ => trivial) _ rfl (by omega)
    rcases hfl with h0 | h0
    · rw [if_pos h0]
      rcases go with g | g
      · exact g
      · exact absurd (h0.symm.trans g.2.1) (by decide)
    · rw [if_neg (by rw [h0]; decide)]
      by_cases hl1 : lv = 1
      · rw [if_pos (by rw [hl1]; rfl)]
        obtain ⟨i1, i2⟩ := pX12_is (ms := ms) (kd := kd) (wt := wt) (p := q + 1) (c := 1) hd hs (by omega)
        rw [show (1 : Int32) = nI 1 from rfl]
        by_cases hi : isC kd wt (s + (q + 1)) 1
        · have hq : q + 1 = r := by
            by_cases hq : q + 1 = r
            · exact hq
            · exact absurd ⟨by omega, hi⟩ (hel h0 (q + 1) (by omega) (by omega))
          rw [i1 hi, bd1_s, if_neg (by decide), hq]
        · rw [i2 hi, bd1_s, if_pos (by decide)]
          rcases go with g | g
          · exact g
          · rw [g.1] at hi; exact absurd g.2.2 hi
      · rw [if_neg (ne_L 1 1 hl1)]
        rcases go with g | g
        · exact g
        · rw [g.1, hend.1] at hlv; omega
theorem pX12_behind {D : Nat → Nat} {fl : Int32} {z r : Nat} (hd : d < 20) (hs : ms d = nI s) (hz : mz d = nI z) (hpr : p < r) (hr : r < z) (hz2 : s + z ≤ 200) (hfl : fl = 0 ∨ fl = 1) (hD : ∀ q, p < q → q ≤ r → DS kd wt s D q) (hge : ∀ q, p < q → q ≤ r → D (p + 1) ≤ D q ∧ D q ≤ 300) (hel : fl = 1 → ∀ q, p < q → q < r → ¬ (D q = D (p + 1) ∧ isC kd wt (s + q) 1)) (hend : D r = D (p + 1) ∧ ((fl = 1 ∧ isC kd wt (s + r) 1) ∨ (clQ kd wt (s + r)))) : fnX12_behind ms mz kd wt (nI d) (nI p) fl = some (nI (r + 1)) := by
  unfold fnX12_behind
  have := bh_loop (p := p) hd hs hz hr hz2 hfl hD hge hel hend (r - p) p fuel_ (by omega) (by omega) (by unfold fuel_; omega) hpr (fun _ => trivial) 1 (by omega) hpr
  rw [Nat.sub_self] at this
  exact this
/-- the scan backwards from word p: it ends at word r, the last before p with D r < D p -/
theorem bk_loop {D : Nat → Nat} {z r : Nat} (hd : d < 20) (hs : ms d = nI s) (hz : mz d = nI z) (hp : p < z) (hz2 : s + z ≤ 200) (hD : ∀ q, r ≤ q → q < p → DS kd wt s D q) (hge : ∀ q, r < q → q ≤ p → D p ≤ D q ∧ D q ≤ 300) (hend : D r + 1 = D p) :
    ∀ (e q f : Nat), r + 1 + e = q → q ≤ p → e + 2 ≤ f → fnX12_back_8 ms mz kd wt f (nI d) (nI (1 + D q - D p)) (nI q) (nI (p - q)) = some (nI (r + 1)) := by
  intro e
  induction e with
  | zero =>
    intro q f h1 h2 h3
    obtain ⟨f, rfl⟩ : ∃ g, f = g + 2 := ⟨f - 2, by omega⟩
    have hq : q = r + 1 := by omega
    subst hq
    have hge1 := hge (r + 1) (by omega) h2
    obtain ⟨g1, g2, g3⟩ := hD r (Nat.le_refl r) (by omega)
    have ho : opQ kd wt (s + r) := by
      by_cases ho : opQ kd wt (s + r)
      · exact ho
      · by_cases hc : clQ kd wt (s + r)
        · have := g2 hc; omega
        · have := g3 ho hc; omega
    obtain ⟨a1, a2⟩ := pX12_opens (kd := kd) (wt := wt) (p := r) hd hs (by omega)
    obtain ⟨c1, c2⟩ := pX12_closes (kd := kd) (wt := wt) (p := r) hd hs (by omega)
    have e1 : 1 + D (r + 1) - D p = 1 := by have := g1 ho; omega
    rw [e1, fnX12_back_8, ga_n hd (by omega), bd1_s, hz, if_neg (fun y => absurd ((nI_leI (by omega) (by omega)).mp y) (by omega)), if_neg (nI_nle (by omega) (by omega)), nI_pred, c2 (fun z => op_cl ho z), bd1_s, a1 ho, bd1_s]
    have e0 : nI 1 + 0 - 1 = nI 0 := by decide
    rw [e0, fnX12_back_8, ga_n hd (by omega), bd1_s, hz]
    have e53 : fnX12_back_53 ms mz kd wt (nI r) = some (nI (r + 1)) := by
      unfold fnX12_back_53
      rw [nI_1]
    by_cases hh : nI z ≤ nI (p - (r + 1)) + 1
    · rw [if_pos hh, e53]
    · rw [if_neg hh, if_pos (by decide), e53]
  | succ e ih =>
    intro q f h1 h2 h3
    obtain ⟨f, rfl⟩ : ∃ g, f = g + 1 := ⟨f - 1, by omega⟩
    obtain ⟨q, rfl⟩ : ∃ g, q = g + 1 := ⟨q - 1, by omega⟩
    have hge1 := hge (q + 1) (by omega) h2
    have hge0 := hge q (by omega) (by omega)
    obtain ⟨g1, g2, g3⟩ := hD q (by omega) (by omega)
    obtain ⟨a1, a2⟩ := pX12_opens (kd := kd) (wt := wt) (p := q) hd hs (by omega)
    obtain ⟨c1, c2⟩ := pX12_closes (kd := kd) (wt := wt) (p := q) hd hs (by omega)
    rw [fnX12_back_8, ga_n hd (by omega), bd1_s, hz, if_neg (fun y => absurd ((nI_leI (by omega) (by omega)).mp y) (by omega)), if_neg (nI_nle (by omega) (by omega)), nI_pred, nI_1, show p - (q + 1) + 1 = p - q by omega]
    have step : ∀ a b : Nat, a ≤ 1 → b ≤ 1 → D (q + 1) + a = D q + b → (nI (1 + D (q + 1) - D p) + nI a) - nI b = nI (1 + D q - D p) := by
      intro a b ha hb hab
      rw [nI_add, pk_sub (by omega)]
      congr 1
      omega
    by_cases ho : opQ kd wt (s + q)
    · rw [c2 (fun z => op_cl ho z), bd1_s, a1 ho, bd1_s, show (nI (1 + D (q + 1) - D p) + 0) - 1 = nI (1 + D q - D p) from step 0 1 (by omega) (by omega) (by have := g1 ho; omega)]
      exact ih q f (by omega) (by omega) (by omega)
    · by_cases hc : clQ kd wt (s + q)
      · rw [c1 hc, bd1_s, a2 ho, bd1_s, show (nI (1 + D (q + 1) - D p) + 1) - 0 = nI (1 + D q - D p) from step 1 0 (by omega) (by omega) (by have := g2 hc; omega)]
        exact ih q f (by omega) (by omega) (by omega)
      · rw [c2 hc, bd1_s, a2 ho, bd1_s, show (nI (1 + D (q + 1) - D p) + 0) - 0 = nI (1 + D q - D p) from step 0 0 (by omega) (by omega) (by have := g3 ho hc; omega)]
        exact ih q f (by omega) (by omega) (by omega)
theorem pX12_back {D : Nat → Nat} {z r : Nat} (hd : d < 20) (hs : ms d = nI s) (hz : mz d = nI z) (hrp : r < p) (hp : p < z) (hz2 : s + z ≤ 200) (hD : ∀ q, r ≤ q → q < p → DS kd wt s D q) (hge : ∀ q, r < q → q ≤ p → D p ≤ D q ∧ D q ≤ 300) (hend : D r + 1 = D p) : fnX12_back ms mz kd wt (nI d) (nI p) = some (nI (r + 1)) := by
  unfold fnX12_back
  have := bk_loop (p := p) hd hs hz hp hz2 hD hge hend (p - (r + 1)) p fuel_ (by omega) (by omega) (by unfold fuel_; omega)
  rw [show 1 + D p - D p = 1 by omega, Nat.sub_self] at this
  exact this
end
