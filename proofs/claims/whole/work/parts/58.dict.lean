/-! the definitions, class and reference -/
def WQ (kd wt ops args : Nat → Int32) (d x : Nat) : Prop :=
  (kd x = 0 ∧ ops x = nI 49 ∧ args x = wt x) ∨
  (kd x = 1 ∧ ∃ j, j < 33 ∧ wt x = nI j ∧ ops x = nI (piT j)) ∨
  (kd x = 3 ∧ ∃ e, e < d ∧ wt x = nI e ∧ ops x = nI 50 ∧ args x = nI e) ∨
  (kd x = 2 ∧ ∃ c, c < 13 ∧ wt x = nI c ∧ ops x = nI (33 + c) ∧ (c = 12 → args x = nI d))
/-- a body -/
def BD (kd wt ops args : Nat → Int32) (s n d : Nat) : Prop :=
  (∀ q, q < n → WQ kd wt ops args d (s + q)) ∧ (∀ r, r ≤ n → Dn kd wt s r ≤ 8) ∧ (∀ p, p < n → DS kd wt s (Dn kd wt s) p) ∧ (∀ p, p < n → JW kd wt s args n False p) ∧ nsc kd wt n s ≤ 60
section
variable {kd wt ops args kd' wt' ops' args' : Nat → Int32} {s n d : Nat}
theorem WQ_WP {x : Nat} (h : WQ kd wt ops args d x) : WP kd wt ops x := by
  rcases h with ⟨h1, h2, -⟩ | ⟨h1, j, h2, h3, h4⟩ | ⟨h1, e, h2, h3, h4, -⟩ | ⟨h1, c, h2, h3, h4, -⟩
  · exact Or.inl ⟨by rw [h1]; decide, 49, h2, by omega, by omega⟩
  · have := (vk_plain j h2).2
    exact Or.inl ⟨by rw [h1]; decide, piT j, h4, by omega, by omega⟩
  · exact Or.inl ⟨by rw [h1]; decide, 50, h4, by omega, by omega⟩
  · exact Or.inr ⟨h1, c, h2, h3, h4⟩
theorem Dn_cg (h : ∀ x, x < s + n → kd' x = kd x ∧ wt' x = wt x) : ∀ q, q ≤ n → Dn kd' wt' s q = Dn kd wt s q := by
  intro q
  induction q with
  | zero => intro _; rfl
  | succ q ih =>
    intro hq
    obtain ⟨e1, e2⟩ := h (s + q) (by omega)
    show (if kd' (s + q) = 2 ∧ (wt' (s + q) = nI 0 ∨ wt' (s + q) = nI 3 ∨ wt' (s + q) = nI 8) then Dn kd' wt' s q + 1 else if kd' (s + q) = 2 ∧ (wt' (s + q) = nI 2 ∨ wt' (s + q) = nI 4 ∨ wt' (s + q) = nI 5 ∨ wt' (s + q) = nI 7 ∨ wt' (s + q) = nI 9) then Dn kd' wt' s q - 1 else Dn kd' wt' s q) = _
    rw [e1, e2, ih (by omega)]
    rfl
theorem DLn_cg (h : ∀ x, x < s + n → kd' x = kd x ∧ wt' x = wt x) : ∀ q, q ≤ n → DLn kd' wt' s q = DLn kd wt s q := by
  intro q
  induction q with
  | zero => intro _; rfl
  | succ q ih =>
    intro hq
    obtain ⟨e1, e2⟩ := h (s + q) (by omega)
    show (if kd' (s + q) = 2 ∧ wt' (s + q) = nI 8 then DLn kd' wt' s q + 1 else if kd' (s + q) = 2 ∧ wt' (s + q) = nI 9 then DLn kd' wt' s q - 1 else DLn kd' wt' s q) = _
    rw [e1, e2, ih (by omega)]
    rfl
theorem nsc_cg : ∀ (l x : Nat), (∀ y, y < x + l → kd' y = kd y ∧ wt' y = wt y) → nsc kd' wt' l x = nsc kd wt l x := by
  intro l
  induction l with
  | zero => intro x _; rfl
  | succ l ih =>
    intro x h
    obtain ⟨e1, e2⟩ := h x (by omega)
    show nst kd' wt' x + nsc kd' wt' l (x + 1) = nst kd wt x + nsc kd wt l (x + 1)
    rw [ih (x + 1) (fun y hy => h y (by omega))]
    unfold nst
    rw [e1, e2]
theorem BD_cg (h : ∀ x, x < s + n → kd' x = kd x ∧ wt' x = wt x ∧ ops' x = ops x ∧ args' x = args x) (hB : BD kd wt ops args s n d) : BD kd' wt' ops' args' s n d := by
  have hD := Dn_cg (kd := kd) (wt := wt) (kd' := kd') (wt' := wt') (s := s) (n := n) (fun x hx => ⟨(h x hx).1, (h x hx).2.1⟩)
  have hL := DLn_cg (kd := kd) (wt := wt) (kd' := kd') (wt' := wt') (s := s) (n := n) (fun x hx => ⟨(h x hx).1, (h x hx).2.1⟩)
  have hC : ∀ p c, p < n → (isC kd' wt' (s + p) c ↔ isC kd wt (s + p) c) := fun p c hp => by
    unfold isC
    rw [(h (s + p) (by omega)).1, (h (s + p) (by omega)).2.1]
  have hcl : ∀ p, p < n → (clQ kd' wt' (s + p) ↔ clQ kd wt (s + p)) := fun p hp => by
    unfold clQ
    rw [hC p 2 hp, hC p 4 hp, hC p 5 hp, hC p 7 hp, hC p 9 hp]
  have hop : ∀ p, p < n → (opQ kd' wt' (s + p) ↔ opQ kd wt (s + p)) := fun p hp => by
    unfold opQ
    rw [hC p 0 hp, hC p 3 hp, hC p 8 hp]
  obtain ⟨b1, b2, b3, b4, b5⟩ := hB
  refine ⟨fun q hq => ?_, fun r hr => ?_, fun p hp => ?_, fun p hp => ?_, ?_⟩
  · obtain ⟨e1, e2, e3, e4⟩ := h (s + q) (by omega)
    have := b1 q hq
    unfold WQ at this ⊢
    rw [e1, e2, e3, e4]
    exact this
  · rw [hD r hr]; exact b2 r hr
  · obtain ⟨g1, g2, g3⟩ := b3 p hp
    unfold DS
    rw [hD (p + 1) (by omega), hD p (by omega), hop p hp, hcl p hp]
    exact ⟨g1, g2, g3⟩
  · obtain ⟨g1, g2, g3, g4⟩ := b4 p hp
    have ea := (h (s + p) (by omega)).2.2.2
    unfold JW
    rw [hC p 0 hp, hC p 1 hp, hC p 6 hp, hC p 4 hp, hC p 5 hp, hC p 7 hp, hC p 9 hp, hC p 10 hp, hL p (by omega)]
    refine ⟨fun z => ?_, fun z => ?_, fun z => ?_, g4⟩
    · rcases g1 z with ⟨r, a1, a2, a3, a4, a5, a6, a7, a8⟩ | y
      · refine Or.inl ⟨r, a1, a2, ?_, ?_, fun x x1 x2 => ?_, fun x x1 x2 => ?_, ea.trans a7, ?_⟩
        · rw [hD r (by omega), hD (p + 1) (by omega)]; exact a3
        · rw [hC r 1 (by omega), hcl r (by omega)]; exact a4
        · rw [hD x (by omega), hD (p + 1) (by omega)]; exact a5 x x1 x2
        · rw [hD x (by omega), hD (p + 1) (by omega), hC x 1 (by omega)]; exact a6 x x1 x2
        · rw [hL (r + 1) (by omega), hL p (by omega)]; exact a8
      · exact y.elim
    · rcases g2 z with ⟨r, a1, a2, a3, a4, a5, a7, a8⟩ | y
      · refine Or.inl ⟨r, a1, a2, ?_, ?_, fun x x1 x2 => ?_, ea.trans a7, ?_⟩
        · rw [hD r (by omega), hD (p + 1) (by omega)]; exact a3
        · rw [hcl r (by omega)]; exact a4
        · rw [hD x (by omega), hD (p + 1) (by omega)]; exact a5 x x1 x2
        · rw [hL (r + 1) (by omega), hL p (by omega)]; exact a8
      · exact y.elim
    · obtain ⟨r, a1, a2, a3, a4, a5⟩ := g3 z
      refine ⟨r, a1, ?_, fun x x1 x2 => ?_, ea.trans a4, ?_⟩
      · rw [hD r (by omega), hD p (by omega)]; exact a2
      · rw [hD x (by omega), hD p (by omega)]; exact a3 x x1 x2
      · rw [hL (r + 1) (by omega), hL p (by omega)]; exact a5
  · rw [nsc_cg n s (fun y hy => ⟨(h y hy).1, (h y hy).2.1⟩)]; exact b5
/-- where the words of a body lead, as the reference finds it -/
theorem BD_WK {ms mz : Nat → Int32} {sz q : Nat} (hB : BD kd wt ops args s n d) (hd : d < 20) (hs : ms d = nI s) (hz : mz d = nI n) (hn : s + n ≤ 200) (hsz : d < sz) (hq : q < n) : WK ms mz kd wt ops args s n d sz q := by
  obtain ⟨b1, b2, b3, b4, b5⟩ := hB
  rcases b1 q hq with h | h | ⟨h1, e, h2, h3, h4, h5⟩ | ⟨h1, c, h2, h3, h4, h5⟩
  · exact Or.inl h
  · exact Or.inr (Or.inl h)
  · exact Or.inr (Or.inr (Or.inl ⟨h1, e, by omega, h3, h4, h5⟩))
  · refine Or.inr (Or.inr (Or.inr ⟨h1, c, h2, h3, h4, ?_⟩))
    have hC : isC kd wt (s + q) c := ⟨h1, h3⟩
    obtain ⟨g1, g2, g3, g4⟩ := b4 q hq
    have h300 : ∀ r, r ≤ n → Dn kd wt s r ≤ 300 := fun r hr => Nat.le_trans (b2 r hr) (by omega)
    have fw : FWok kd wt s args n q → ∃ t, q < t ∧ t ≤ n ∧ args (s + q) = nI (s + t) ∧ fnX12_behind ms mz kd wt (nI d) (nI q) 0 = some (nI t) ∧ DLn kd wt s t = DLn kd wt s q := by
      rintro ⟨r, a1, a2, a3, a4, a5, a7, a8⟩
      exact ⟨r + 1, by omega, by omega, a7, pX12_behind hd hs hz a1 a2 hn (Or.inl rfl) (fun x x1 x2 => b3 x (by omega)) (fun x x1 x2 => ⟨a5 x x1 x2, h300 x (by omega)⟩) (fun z => absurd z (by decide)) ⟨a3, Or.inr a4⟩, a8⟩
    refine ⟨fun z => ?_, fun z => ?_, fun z => ?_, fun z => ?_, fun z => ?_, h5⟩
    · subst z
      rcases g1 hC with ⟨r, a1, a2, a3, a4, a5, a6, a7, a8⟩ | y
      · exact ⟨r + 1, by omega, a7, pX12_behind hd hs hz a1 a2 hn (Or.inr rfl) (fun x x1 x2 => b3 x (by omega)) (fun x x1 x2 => ⟨a5 x x1 x2, h300 x (by omega)⟩) (fun _ => a6) ⟨a3, a4.imp (fun y => ⟨rfl, y⟩) id⟩, a8⟩
      · exact y.elim
    · subst z
      rcases g2 (Or.inl hC) with y | y
      · exact fw y
      · exact y.elim
    · have hb : BKok kd wt s args q := g3 (by rcases z with rfl | rfl | rfl | rfl; exact Or.inl hC; exact Or.inr (Or.inl hC); exact Or.inr (Or.inr (Or.inl hC)); exact Or.inr (Or.inr (Or.inr hC)))
      obtain ⟨r, a1, a2, a3, a4, a5⟩ := hb
      exact ⟨r + 1, by omega, a4, pX12_back hd hs hz a1 hq hn (fun x x1 x2 => b3 x (by omega)) (fun x x1 x2 => ⟨a3 x x1 x2, h300 x (by omega)⟩) a2, a5⟩
    · subst z
      rcases g2 (Or.inr hC) with y | y
      · obtain ⟨t, -, t2⟩ := fw y
        exact ⟨t, t2⟩
      · exact y.elim
    · exact g4 (by rcases z with rfl | rfl; exact Or.inl hC; exact Or.inr hC)
end
/-- the definitions -/
def DI (keys names : Nat → Int64) (ds ops args ms mz kd wt : Nat → Int32) (S : Nat → Nat) (sz : Nat) : Prop :=
  sz ≤ 20 ∧ S 0 = 0 ∧ (∀ k, k ≤ sz → ds k = nI (S k) ∧ S k ≤ 200) ∧ (∀ k, k < sz → S k ≤ S (k + 1) ∧ ms k = nI (S k) ∧ mz k = nI (S (k + 1) - S k) ∧ keys k = names k ∧ NK (keys k) ∧ BD kd wt ops args (S k) (S (k + 1) - S k) k)
section
variable {keys names keys' names' : Nat → Int64} {ds ops args ms mz kd wt ds' ops' args' ms' mz' kd' wt' : Nat → Int32} {S : Nat → Nat} {sz : Nat}
theorem DI_DK (h : DI keys names ds ops args ms mz kd wt S sz) : DK ds ops args ms mz kd wt S sz := by
  obtain ⟨h1, h2, h3, h4⟩ := h
  refine ⟨h1, h3, fun k hk => ?_⟩
  obtain ⟨g1, g2, g3, -, -, g6⟩ := h4 k hk
  have h200 := (h3 (k + 1) (by omega)).2
  exact ⟨g1, g2, g3, g6.2.2.2.2, fun q hq => BD_WK g6 (by omega) g2 g3 (by omega) hk (by omega)⟩
theorem DI_mono (h : DI keys names ds ops args ms mz kd wt S sz) : ∀ (e k : Nat), k + e ≤ sz → S k ≤ S (k + e) := by
  intro e
  induction e with
  | zero => intro k _; exact Nat.le_refl _
  | succ e ih =>
    intro k hk
    have h1 := ih k (by omega)
    have h2 := (h.2.2.2 (k + e) (by omega)).1
    rw [show k + (e + 1) = k + e + 1 by omega]
    omega
theorem DI_S (h : DI keys names ds ops args ms mz kd wt S sz) {k : Nat} (hk : k ≤ sz) : S k ≤ S sz := by
  have := DI_mono h (sz - k) k (by omega)
  rw [show k + (sz - k) = sz by omega] at this
  exact this
/-- fewer definitions -/
theorem DI_le (h : DI keys names ds ops args ms mz kd wt S sz) {k : Nat} (hk : k ≤ sz) : DI keys names ds ops args ms mz kd wt S k :=
  ⟨by have := h.1; omega, h.2.1, fun j hj => h.2.2.1 j (by omega), fun j hj => h.2.2.2 j (by omega)⟩
/-- the code behind the last body may change -/
theorem DI_cg (h : DI keys names ds ops args ms mz kd wt S sz) (he : ∀ x, x < S sz → kd' x = kd x ∧ wt' x = wt x ∧ ops' x = ops x ∧ args' x = args x) : DI keys names ds ops' args' ms mz kd' wt' S sz := by
  have hS := fun {k : Nat} (a : k ≤ sz) => DI_S h a
  obtain ⟨h1, h2, h3, h4⟩ := h
  refine ⟨h1, h2, h3, fun k hk => ?_⟩
  obtain ⟨g1, g2, g3, g4, g5, g6⟩ := h4 k hk
  have h5 := hS (show k + 1 ≤ sz by omega)
  exact ⟨g1, g2, g3, g4, g5, BD_cg (fun x hx => he x (by omega)) g6⟩
/-- one more -/
theorem DI_add (h : DI keys names ds ops args ms mz kd wt S sz) (hsz : sz < 20) {n : Nat} (hn : S sz + n ≤ 200) {v : Int64} (hv : NK v) (hB : BD kd wt ops args (S sz) n sz) : DI (vp_updL keys sz v) (vp_updL names sz v) (upd ds (sz + 1) (nI (S sz + n))) ops args (upd ms sz (nI (S sz))) (upd mz sz (nI n)) kd wt (upn S (sz + 1) (S sz + n)) (sz + 1) := by
  obtain ⟨h1, h2, h3, h4⟩ := h
  refine ⟨by omega, ?_, fun k hk => ?_, fun k hk => ?_⟩
  · rw [upn_n _ _ (by omega)]; exact h2
  · by_cases e : k = sz + 1
    · subst e; rw [pk_us, upn_s]; exact ⟨rfl, hn⟩
    · rw [pk_un e, upn_n _ _ e]; exact h3 k (by omega)
  · by_cases e : k = sz
    · subst e
      rw [show upn S (k + 1) (S k + n) k = S k from upn_n _ _ (by omega), show upn S (k + 1) (S k + n) (k + 1) = S k + n from upn_s _ _ _, pk_us, pk_us, show S k + n - S k = n by omega]
      have e1 : ∀ f : Nat → Int64, vp_updL f k v k = v := fun f => by simp [vp_updL]
      rw [e1, e1]
      exact ⟨by omega, rfl, rfl, rfl, hv, hB⟩
    · obtain ⟨g1, g2, g3, g4, g5, g6⟩ := h4 k (by omega)
      rw [show upn S (sz + 1) (S sz + n) k = S k from upn_n _ _ (by omega), show upn S (sz + 1) (S sz + n) (k + 1) = S (k + 1) from upn_n _ _ (by omega), pk_un e, pk_un e]
      have e1 : ∀ f : Nat → Int64, vp_updL f sz v k = f k := fun f => by simp [vp_updL, e]
      rw [e1, e1]
      exact ⟨g1, g2, g3, g4, g5, g6⟩
/-- the search for a name -/
theorem fd_loop {v : Int64} {X Y : Int32} : ∀ (m f g : Nat), m ≤ 20 → m < f → m < g → (∀ k, k < m → keys k = names k) → ∃ r, fnX1_find_7 keys X f v (nI m - 1) = some r ∧ fnX12_meant_7 names Y g v (nI m - 1) = some r ∧ ((r = -1 ∧ ∀ k, k < m → keys k ≠ v) ∨ ∃ k, k < m ∧ r = nI k ∧ keys k = v) := by
  intro m
  induction m with
  | zero =>
    intro f g _ hf hg _
    obtain ⟨f, rfl⟩ : ∃ f', f = f' + 1 := ⟨f - 1, by omega⟩
    obtain ⟨g, rfl⟩ : ∃ g', g = g' + 1 := ⟨g - 1, by omega⟩
    rw [fnX1_find_7, fnX12_meant_7, if_pos (by decide), if_pos (by decide)]
    exact ⟨-1, rfl, rfl, Or.inl ⟨rfl, fun k hk => absurd hk (by omega)⟩⟩
  | succ m ih =>
    intro f g hm hf hg hk
    obtain ⟨f, rfl⟩ : ∃ f', f = f' + 1 := ⟨f - 1, by omega⟩
    obtain ⟨g, rfl⟩ : ∃ g', g = g' + 1 := ⟨g - 1, by omega⟩
    rw [show nI (m + 1) - 1 = nI m from pk_sub (a := m + 1) (b := 1) (by omega), fnX1_find_7, fnX12_meant_7, if_neg (nI_pos (by omega)), if_neg (nI_pos (by omega))]
    unfold fnX1_keyOf
    rw [if_neg (nI_pos (by omega)), if_neg (lL_f 20 20 (by omega)), ga_n (by omega) (by omega), bd1_s, bd1_s, ga_n (by omega) (by omega), bd1_s, ← hk m (by omega)]
    by_cases e : keys m = v
    · rw [if_pos (lg0.mpr e), if_pos (lg0.mpr e)]
      exact ⟨nI m, rfl, rfl, Or.inr ⟨m, by omega, rfl, e⟩⟩
    · rw [if_neg (fun z => e (lg0.mp z)), if_neg (fun z => e (lg0.mp z))]
      have e1 : nI m + (-1 : Int32) = nI m - 1 := by rw [Int32.sub_eq_add_neg]
      rw [e1]
      obtain ⟨r, a1, a2, a3⟩ := ih f g (by omega) (by omega) (by omega) (fun k hk2 => hk k (by omega))
      refine ⟨r, a1, a2, ?_⟩
      rcases a3 with ⟨b1, b2⟩ | ⟨k, b1, b2, b3⟩
      · refine Or.inl ⟨b1, fun k hk2 => ?_⟩
        by_cases ek : k = m
        · subst ek; exact e
        · exact b2 k (by omega)
      · exact Or.inr ⟨k, by omega, b2, b3⟩
theorem fd_both (h : DI keys names ds ops args ms mz kd wt S sz) (v : Int64) : ∃ r, fnX1_find keys (nI sz) v = some r ∧ fnX12_meant names (nI sz) v = some r ∧ ((r = -1 ∧ ∀ k, k < sz → keys k ≠ v) ∨ ∃ k, k < sz ∧ r = nI k ∧ keys k = v) := by
  have := h.1
  exact fd_loop sz fuel_ fuel_ h.1 (by unfold fuel_; omega) (by unfold fuel_; omega) (fun k hk => (h.2.2.2 k hk).2.2.2.1)
theorem fd_none (h : DI keys names ds ops args ms mz kd wt S sz) {v : Int64} (hv : ∀ k, k < sz → keys k ≠ v) : fnX1_find keys (nI sz) v = some (-1) ∧ fnX12_meant names (nI sz) v = some (-1) := by
  obtain ⟨r, a1, a2, a3⟩ := fd_both h v
  rcases a3 with ⟨b1, b2⟩ | ⟨k, b1, b2, b3⟩
  · rw [b1] at a1 a2; exact ⟨a1, a2⟩
  · exact absurd b3 (hv k b1)
end
