/-! a definition is read -/
theorem vk_len {tx : Nat → Int32} {s e o : Nat} (hW : Wd tx (e - s) s) (h7 : e - s ≤ 7) (ho : o = 34 ∨ o = 35 ∨ o = 36) (h : wk tx s e = vkT o) : 4 ≤ e - s := by
  have hn : ∃ m, 128 ^ 3 ≤ m ∧ m < 2 ^ 63 ∧ vkT o = Int64.ofNat m := by
    rcases ho with rfl | rfl | rfl
    · exact ⟨213596645, by decide, by decide, rfl⟩
    · exact ⟨244986606, by decide, by decide, rfl⟩
    · exact ⟨26520188142, by decide, by decide, rfl⟩
  obtain ⟨m, m1, m2, m3⟩ := hn
  unfold wk at h
  rw [if_pos h7, kyf_n hW, m3] at h
  have h1 := i64_inj (kyn_63 hW (by omega)) m2 h
  have h2 := kyn_lt hW
  rcases Nat.lt_or_ge (e - s) 4 with y | y
  · have : 128 ^ (e - s) ≤ 128 ^ 3 := Nat.pow_le_pow_right (by decide) (by omega)
    omega
  · exact y
theorem WS_gap {tx : Nat → Int32} {n nw : Nat} {fr tt : Nat → Nat} (hW : WS tx n nw fr tt) {k : Nat} (hk : k < nw) (h1 : 1 ≤ k) : pe tt k + 1 ≤ fr k := by
  obtain ⟨a1, a2, a3, a4, a5, a6⟩ := hW.1 k hk
  obtain ⟨-, -, -, -, -, b6⟩ := hW.1 (k - 1) (by omega)
  have e : pe tt k = tt (k - 1) := by unfold pe; rw [if_neg (by omega)]
  rcases Nat.lt_or_ge (pe tt k) (fr k) with y | y
  · exact y
  · have e2 : fr k = tt (k - 1) := by omega
    have := a5 (fr k) (Nat.le_refl _) a2
    rw [e2] at this
    exact absurd (b6 (by omega)) this
def DSim (tt : Nat → Nat) (nw w0 : Nat) (X : Option (Int32 × (Nat → Int32) × (Nat → Int32) × (Nat → Int64) × (Nat → Int32) × Int32 × Int32 × (Nat → Int32) × Int32 × Int32 × Int32 × Int32 × Int32)) (Y : Option (Int32 × (Nat → Int64) × (Nat → Int32) × (Nat → Int32) × Int32 × (Nat → Int32) × (Nat → Int32) × (Nat → Int32) × Int32 × Int32)) : Prop :=
  ∃ (F sz p : Nat) (S : Nat → Nat) (ops args ds ms mz kd wt wa op : Nat → Int32) (keys names : Nat → Int64) (ol o l ws we y : Int32), F ≤ 9 ∧ X = some (nI F, ops, args, keys, ds, nI sz, ol, wa, o, l, ws, we, nI p) ∧ Y = some (y, names, ms, mz, nI sz, kd, wt, op, nI F, nI p) ∧ DI keys names ds ops args ms mz kd wt S sz ∧ (F = 0 → p < nw ∧ w0 ≤ p ∧ y = nI (p + 1) ∧ we = nI (tt p))
section
variable {tx F G : Nat → Int32} {keys names K : Nat → Int64} {ds ms mz : Nat → Int32} {S fr tt : Nat → Nat} {sz n nw w0 : Nat}
/-- one more word of the body -/
theorem word_add {ops args kd wt : Nat → Int32} {m : Nat} (hD : DI keys names ds ops args ms mz kd wt S sz) (hW : ∀ q, q < m → S sz + q < 200 → WQ kd wt ops args sz (S sz + q)) {oo aa kk ww : Int32} (hq : ∀ (kd wt ops args : Nat → Int32) (x : Nat), kd x = kk → wt x = ww → ops x = oo → args x = aa → WQ kd wt ops args sz x) :
    DI keys names ds (if S sz + m < 200 then upd ops (S sz + m) oo else ops) (if S sz + m < 200 then upd args (S sz + m) aa else args) ms mz (upd kd (S sz + m) kk) (upd wt (S sz + m) ww) S sz ∧ (∀ q, q < m + 1 → S sz + q < 200 → WQ (upd kd (S sz + m) kk) (upd wt (S sz + m) ww) (if S sz + m < 200 then upd ops (S sz + m) oo else ops) (if S sz + m < 200 then upd args (S sz + m) aa else args) sz (S sz + q)) := by
  constructor
  · refine DI_cg hD (fun x hx => ⟨pk_un (by omega), pk_un (by omega), ?_, ?_⟩)
    · by_cases h : S sz + m < 200
      · rw [if_pos h]; exact pk_un (by omega)
      · rw [if_neg h]
    · by_cases h : S sz + m < 200
      · rw [if_pos h]; exact pk_un (by omega)
      · rw [if_neg h]
  · intro q h1 h2
    by_cases e : q = m
    · subst e
      rw [if_pos h2, if_pos h2]
      exact hq _ _ _ _ _ pk_us pk_us pk_us pk_us
    · have h3 := hW q (by omega) h2
      unfold WQ at h3 ⊢
      rw [pk_un (show S sz + q ≠ S sz + m by omega), pk_un (show S sz + q ≠ S sz + m by omega)]
      by_cases h : S sz + m < 200
      · rw [if_pos h, if_pos h, pk_un (show S sz + q ≠ S sz + m by omega), pk_un (show S sz + q ≠ S sz + m by omega)]; exact h3
      · rw [if_neg h, if_neg h]; exact h3
theorem nsc_add {kd wt : Nat → Int32} {m x : Nat} {kk ww : Int32} : nsc (upd kd (x + m) kk) (upd wt (x + m) ww) (m + 1) x = nsc kd wt m x + (if kk = 2 ∧ (ww = nI 1 ∨ ww = nI 2 ∨ ww = nI 3) then 1 else 0) := by
  rw [nsc_snoc, nsc_cg (kd := kd) (wt := wt) m x (fun y hy => ⟨pk_un (by omega), pk_un (by omega)⟩)]
  unfold nst
  rw [pk_us, pk_us]
theorem def_loop (hT : Tx tx n) (hWS : WS tx n nw fr tt) (hFG : ∀ k, k < nw → F k = nI (fr k) ∧ G k = nI (tt k)) (hnw : nw ≤ 150) (hK : ∀ j, j < 49 → K j = vkT j) {v : Int64} (hv : NK v) : ∀ (e k m f g : Nat) (ops args kd wt wa op : Nat → Int32) (o l ws pl pm : Int32), k + e = nw → m + 2 ≤ k → w0 ≤ k → e + 1 < f → e + 1 < g → pl + 1 = nI k → DI keys names ds ops args ms mz kd wt S sz → (∀ q, q < m → S sz + q < 200 → WQ kd wt ops args sz (S sz + q)) → 5 * nsc kd wt m (S sz) ≤ pe tt k → DSim tt nw w0 (fnX3_define_43 tx (nI n) K f v (nI m) ops args keys ds (nI sz) (nI m) wa o l ws (nI (pe tt k)) pl) (fnX12_define_124 tx F G (nI nw) g v (nI (S sz)) (nI m) (nI k) names ms mz (nI sz) kd wt op 0 pm) := by
  have hn := hT.1
  intro e
  induction e with
  | zero =>
    intro k m f g ops args kd wt wa op o l ws pl pm h1 h3 hw0 h4 h5 h6 hD hW hc
    obtain ⟨f, rfl⟩ : ∃ f', f = f' + 1 := ⟨f - 1, by omega⟩
    obtain ⟨g, rfl⟩ : ∃ g', g = g' + 1 := ⟨g - 1, by omega⟩
    have : k = nw := by omega
    subst this
    rw [fnX3_define_43, if_neg (lL_f 300 300 (by omega)), adv_end hT hWS, bd4_s, if_pos rfl, h6, fnX12_define_124, if_pos (Int32.le_refl _)]
    exact ⟨1, sz, k, S, ops, args, ds, ms, mz, kd, wt, wa, op, keys, names, _, _, _, _, _, _, by omega, rfl, rfl, hD, fun z => absurd z (by omega)⟩
  | succ e ih =>
    intro k m f g ops args kd wt wa op o l ws pl pm h1 h3 hw0 h4 h5 h6 hD hW hc
    obtain ⟨f, rfl⟩ : ∃ f', f = f' + 1 := ⟨f - 1, by omega⟩
    obtain ⟨g, rfl⟩ : ∃ g', g = g' + 1 := ⟨g - 1, by omega⟩
    have hk : k < nw := by omega
    have hS200 := (hD.2.2.1 sz (Nat.le_refl sz)).2
    have hsz := hD.1
    obtain ⟨w1, w2, w3⟩ := WS_Wd hT hWS hk
    obtain ⟨eF, eG⟩ := hFG k hk
    obtain ⟨b, b1, b2, b3⟩ := opw hT w1 w2 w3 hK hD
    have hgap := WS_gap hWS hk (by omega)
    rw [fnX3_define_43, if_neg (lL_f 300 300 (by omega)), adv_ws hT hWS hk, bd4_s, if_neg (by decide), b2, bd1_s, h6, fnX12_define_124, if_neg (fun z => absurd ((nI_leI (by omega) (by omega)).mp z) (by omega)), pX12_spelled (by omega) w1 (by omega) eF eG, bd1_s]
    have wrong : DSim tt nw w0 (some (1, ops, args, keys, ds, nI sz, nI m, wa, o, l, nI (fr k), nI (tt k), nI k)) (some (-1, names, ms, mz, nI sz, upd kd (S sz + m) (nI 3), upd wt (S sz + m) (-1), op, 1, nI k)) :=
      ⟨1, sz, k, S, ops, args, ds, ms, mz, _, _, wa, op, keys, names, _, _, _, _, _, _, by omega, rfl, rfl, DI_cg hD (fun x hx => ⟨pk_un (by omega), pk_un (by omega), rfl, rfl⟩), fun z => absurd z (by omega)⟩
    have goon : ∀ (oo : Nat) (aa kk ww : Int32), b = oo → b ≠ 47 → b ≠ 46 → b ≠ 48 → b ≠ 52 → sp tx (fr k) (tt k) ≠ 59 → fnX3_argOfWord keys (nI sz) tx (nI n) (nI (fr k)) (nI (tt k)) (nI b) = some aa → fnX12_entry tx F G names (nI sz) kd wt (nI k) (sp tx (fr k) (tt k)) (nI (S sz) + nI m) = some (1, upd kd (S sz + m) kk, upd wt (S sz + m) ww) → (∀ (kd wt ops args : Nat → Int32) (x : Nat), kd x = kk → wt x = ww → ops x = nI oo → args x = aa → WQ kd wt ops args sz x) → (kk = 2 ∧ (ww = nI 1 ∨ ww = nI 2 ∨ ww = nI 3) → 4 ≤ tt k - fr k) →
        DSim tt nw w0 (if nI b = 47 then bd8 (fnX1_closeBody ops args keys ds (nI sz) (nI m) wa o l v) fun r_11 Code_args_11 Dictionary_keys_11 Dictionary_starts_11 Dictionary_size_11 Linker_waiting_11 Linker_open_11 Linker_openLoops_11 =>
            some (r_11, ops, Code_args_11, Dictionary_keys_11, Dictionary_starts_11, Dictionary_size_11, nI m, Linker_waiting_11, Linker_open_11, Linker_openLoops_11, nI (fr k), nI (tt k), nI k)
          else if nI b = 46 then some ((1 : Int32), ops, args, keys, ds, nI sz, nI m, wa, o, l, nI (fr k), nI (tt k), nI k)
          else if nI b = 48 then some ((1 : Int32), ops, args, keys, ds, nI sz, nI m, wa, o, l, nI (fr k), nI (tt k), nI k)
          else if nI b = 52 then some ((1 : Int32), ops, args, keys, ds, nI sz, nI m, wa, o, l, nI (fr k), nI (tt k), nI k)
          else bd1 (fnX3_argOfWord keys (nI sz) tx (nI n) (nI (fr k)) (nI (tt k)) (nI b)) fun r_9 =>
            bd3 (fnX1_addWord ops args ds (nI sz) (nI m) (nI b) r_9) fun Code_ops_10 Code_args_10 Dictionary_openLength_10 =>
            fnX3_define_43 tx (nI n) K f v (nI m + 1) Code_ops_10 Code_args_10 keys ds (nI sz) Dictionary_openLength_10 wa o l (nI (fr k)) (nI (tt k)) (nI k))
        (if lg_cmp (sp tx (fr k) (tt k)) 59 = 0 then (if nI sz = (20 : Int32) then fnX12_define_176 tx F G (nI nw) v (nI (S sz)) (nI m) (nI k) names ms mz (nI sz) kd wt op 0 (nI k)
            else if (nI (S sz) + nI m) ≤ (200 : Int32) then bd2 (fnX12_balanced kd wt op (nI (S sz)) (nI m)) fun r_18 Mo_open_18 =>
              if r_18 = 0 then fnX12_define_201 tx F G (nI nw) v (nI (S sz)) (nI m) (nI k) names ms mz (nI sz) kd wt Mo_open_18 (2 : Int32) (nI k)
              else fnX12_define_201 tx F G (nI nw) v (nI (S sz)) (nI m) (nI k) names ms mz (nI sz) kd wt Mo_open_18 0 (nI k)
            else fnX12_define_176 tx F G (nI nw) v (nI (S sz)) (nI m) (nI k) names ms mz (nI sz) kd wt op 0 (nI k))
          else bd3 (fnX12_entry tx F G names (nI sz) kd wt (nI k) (sp tx (fr k) (tt k)) (nI (S sz) + nI m)) fun r_14 Mo_kind_14 Mo_what_14 =>
            if r_14 = 0 then some ((-1 : Int32), names, ms, mz, nI sz, Mo_kind_14, Mo_what_14, op, (1 : Int32), nI k)
            else fnX12_define_124 tx F G (nI nw) g v (nI (S sz)) (nI m + 1) (nI k + 1) names ms mz (nI sz) Mo_kind_14 Mo_what_14 op 0 (nI k)) := by
      intro oo aa kk ww e0 n47 n46 n48 n52 n59 ha he hq hl
      subst e0
      rw [if_neg (ne_L 47 47 n47), if_neg (ne_L 46 46 n46), if_neg (ne_L 48 48 n48), if_neg (ne_L 52 52 n52), ha, bd1_s, X1_add hD (by omega), bd3_s, if_neg (fun z => n59 (lg0.mp z)), he, bd3_s, if_neg (show ¬ ((1 : Int32) = 0) by decide), nI_1, nI_1]
      obtain ⟨d1, d2⟩ := word_add (m := m) hD hW hq
      rw [show nI (tt k) = nI (pe tt (k + 1)) by rw [pe_s]]
      refine ih (k + 1) (m + 1) f g _ _ _ _ wa op o l _ _ _ (by omega) (by omega) (by omega) (by omega) (by omega) (nI_1 k) d1 d2 ?_
      rw [nsc_add, pe_s]
      by_cases hx : kk = 2 ∧ (ww = nI 1 ∨ ww = nI 2 ∨ ww = nI 3)
      · rw [if_pos hx]
        have := hl hx
        omega
      · rw [if_neg hx]; omega
    have ex : nI (S sz) + nI m = nI (S sz + m) := nI_add _ _
    have hx350 : S sz + m < 350 := by omega
    rcases b3 with ⟨rfl, c1, c2, c3, c4, c5⟩ | ⟨c0, c1, c2, c3, c4, c5⟩ | ⟨rfl, c1, c2, c3, j, j1, j2, j3⟩ | ⟨rfl, c1, c2, c3⟩
    · -- a number
      refine goon 49 (nmv tx (fr k) (tt k)) (nI 0) (nmv tx (fr k) (tt k)) rfl (by decide) (by decide) (by decide) (by decide) c4 ?_ ?_ (fun kd wt ops args x z1 z2 z3 z4 => Or.inl ⟨z1, z3, by rw [z2, z4]⟩) (fun z => absurd z.1 (by decide))
      · unfold fnX3_argOfWord
        rw [if_neg (by decide), if_pos (by decide), pX9_numberValue hT w1 w2, bd1_s]
      · unfold fnX12_entry
        rw [pX12_isNumber (by omega) w1 (by omega) eF eG, bd1_s, c1, if_neg (by decide), ex]
        have := X12_entry (tx := tx) (F := F) (G := G) (names := names) (sz := sz) (kd := kd) (wt := wt) hx350 (k := nI k) (v := sp tx (fr k) (tt k)) (kk := 0) (ww := nmv tx (fr k) (tt k)) (Or.inl ⟨rfl, pX12_number (by omega) w1 (by omega) eF eG⟩)
        rw [if_pos (Or.inr rfl)] at this
        exact this
    · have harg : ∀ x, b = x → x < 49 → x ≠ 45 → fnX3_argOfWord keys (nI sz) tx (nI n) (nI (fr k)) (nI (tt k)) (nI b) = some 0 := by
        intro x hx h49 h45
        unfold fnX3_argOfWord
        rw [if_neg (ne_L 45 45 (by omega)), if_neg (ne_L 49 49 (by omega)), if_neg (ne_L 50 50 (by omega))]
      have hisn : fnX12_isNumber tx F G (nI k) = some 0 := by rw [pX12_isNumber (by omega) w1 (by omega) eF eG, c1]
      have h59 : b ≠ 47 → sp tx (fr k) (tt k) ≠ 59 := by
        intro hb
        rw [c2, ← vk_m47]
        intro z
        rcases Nat.lt_or_ge b 47 with y | y
        · exact vk_inj 47 (by omega) b y z
        · exact vk_inj b c0 47 (by omega) z.symm
      by_cases hp : b < 33
      · -- a plain word
        obtain ⟨p, p1, p2⟩ := vk_pi b hp
        have hpl := (vk_plain p p1).1
        rw [p2] at hpl
        refine goon b 0 (nI 1) (nI p) rfl (by omega) (by omega) (by omega) (by omega) (h59 (by omega)) (harg b rfl c0 (by omega)) ?_ (fun kd wt ops args x z1 z2 z3 z4 => Or.inr (Or.inl ⟨z1, p, p1, z2, by rw [z3, p2]⟩)) (fun z => absurd z.1 (by decide))
        unfold fnX12_entry
        rw [hisn, bd1_s, if_pos rfl, c2, hpl, bd1_s, if_neg (nI_pos (by omega)), ex]
        have := X12_entry (tx := tx) (F := F) (G := G) (names := names) (sz := sz) (kd := kd) (wt := wt) hx350 (k := nI k) (v := vkT b) (kk := 1) (ww := nI p) (Or.inr (Or.inl ⟨rfl, hpl⟩))
        rw [if_pos (Or.inl (lL_t 0 0 (by omega)))] at this
        exact this
      · by_cases hc2 : b < 46
        · -- a control word
          obtain ⟨c, hc, hb⟩ : ∃ c, c < 13 ∧ b = 33 + c := ⟨b - 33, by omega, by omega⟩
          have hpl := vk_control c hc
          rw [← hb] at hpl
          have hargc : fnX3_argOfWord keys (nI sz) tx (nI n) (nI (fr k)) (nI (tt k)) (nI b) = some (if c = 12 then nI sz else 0) := by
            by_cases h12 : c = 12
            · rw [if_pos h12, show b = 45 by omega]
              unfold fnX3_argOfWord fnX1_size
              rw [if_pos (by decide), bd1_s]
            · rw [if_neg h12]; exact harg b rfl c0 (by omega)
          refine goon b _ (nI 2) (nI c) rfl (by omega) (by omega) (by omega) (by omega) (h59 (by omega)) hargc ?_ (fun kd wt ops args x z1 z2 z3 z4 => Or.inr (Or.inr (Or.inr ⟨z1, c, hc, z2, by rw [z3, hb], fun z => by rw [z4, if_pos z]⟩))) (fun z => ?_)
          · unfold fnX12_entry
            rw [hisn, bd1_s, if_pos rfl, c2, hpl.1, bd1_s, if_pos (by decide), hpl.2, bd1_s, if_neg (nI_pos (by omega)), ex]
            have := X12_entry (tx := tx) (F := F) (G := G) (names := names) (sz := sz) (kd := kd) (wt := wt) hx350 (k := nI k) (v := vkT b) (kk := 2) (ww := nI c) (Or.inr (Or.inr (Or.inl ⟨rfl, hpl.2⟩)))
            rw [if_pos (Or.inl (lL_t 0 0 (by omega)))] at this
            exact this
          · have hcc : c = 1 ∨ c = 2 ∨ c = 3 := by
              rcases z.2 with y | y | y
              · exact Or.inl ((nI_eq (by omega) (by omega)).mp y)
              · exact Or.inr (Or.inl ((nI_eq (by omega) (by omega)).mp y))
              · exact Or.inr (Or.inr ((nI_eq (by omega) (by omega)).mp y))
            exact vk_len w3 c4 (by omega) c3
        · by_cases h47 : b = 47
          · -- the semicolon
            subst h47
            have hpe : pe tt k ≤ 300 := by have := (hWS.1 k hk).1; omega
            obtain ⟨F', sz', S', args', ds', ms', mz', wa', op', keys', names', o', l', y, q1, q2, q3, q4, q5⟩ := close_sim (op := op) (wa := wa) (o := o) (l := l) (Ft := tx) (Fg := F) (Fh := G) (nw := nI nw) (pl := nI k) (k := k) hD hv (show m ≤ 150 by omega) hW (by omega)
            rw [if_pos (by decide), q2, bd8_s, if_pos (lg0.mpr (by rw [c2]; exact vk_m47)), q3]
            exact ⟨F', sz', k, S', ops, args', ds', ms', mz', kd, wt, wa', op', keys', names', _, _, _, _, _, y, q1, rfl, rfl, q4, fun z => ⟨hk, hw0, q5 z, rfl⟩⟩
          · -- a mark that may not stand here
            have hmk := vk_marks (b - 46) (by omega)
            rw [show 46 + (b - 46) = b by omega] at hmk
            have he : fnX12_entry tx F G names (nI sz) kd wt (nI k) (sp tx (fr k) (tt k)) (nI (S sz) + nI m) = some (0, upd kd (S sz + m) (nI 3), upd wt (S sz + m) (-1)) := by
              unfold fnX12_entry
              rw [hisn, bd1_s, if_pos rfl, c2, hmk.1, bd1_s, if_pos (by decide), hmk.2, bd1_s, if_pos (by decide), ex]
              rw [c2] at c5
              exact X12_entry (tx := tx) (F := F) (G := G) (names := names) (sz := sz) (kd := kd) (wt := wt) hx350 (k := nI k) (v := vkT b) (kk := 3) (ww := -1) (Or.inr (Or.inr (Or.inr ⟨rfl, c5⟩)))
            rw [if_neg (ne_L 47 47 h47), if_neg (fun z => h59 h47 (lg0.mp z)), he, bd3_s, if_pos rfl]
            by_cases h46 : b = 46
            · rw [if_pos (by rw [h46]; rfl)]; exact wrong
            · rw [if_neg (ne_L 46 46 h46), if_pos (by rw [show b = 48 by omega]; rfl)]; exact wrong
    · -- a name
      have h59 : sp tx (fr k) (tt k) ≠ 59 := by rw [← vk_m47]; exact fun z => c2 47 (by omega) z.symm
      have hisn : fnX12_isNumber tx F G (nI k) = some 0 := by rw [pX12_isNumber (by omega) w1 (by omega) eF eG, c1]
      refine goon 50 (nI j) (nI 3) (nI j) rfl (by decide) (by decide) (by decide) (by decide) h59 ?_ ?_ (fun kd wt ops args x z1 z2 z3 z4 => Or.inr (Or.inr (Or.inl ⟨z1, j, j1, z2, z3, z4⟩))) (fun z => absurd z.1 (by decide))
      · unfold fnX3_argOfWord
        rw [if_neg (by decide), if_neg (by decide), if_pos (by decide), pX9_wordKey hT w1 w2, bd1_s, j2, bd1_s]
      · unfold fnX12_entry
        rw [hisn, bd1_s, if_pos rfl, vk_noplain c2, bd1_s, if_pos (by decide), vk_nocontrol c2, bd1_s, if_pos (by decide), ex]
        have := X12_entry (tx := tx) (F := F) (G := G) (names := names) (sz := sz) (kd := kd) (wt := wt) hx350 (k := nI k) (v := sp tx (fr k) (tt k)) (kk := 3) (ww := nI j) (Or.inr (Or.inr (Or.inr ⟨rfl, j3⟩)))
        rw [if_pos (Or.inl (lL_t 0 0 (by omega)))] at this
        exact this
    · -- unknown
      have h59 : sp tx (fr k) (tt k) ≠ 59 := by rw [← vk_m47]; exact fun z => c2 47 (by omega) z.symm
      have hisn : fnX12_isNumber tx F G (nI k) = some 0 := by rw [pX12_isNumber (by omega) w1 (by omega) eF eG, c1]
      have he : fnX12_entry tx F G names (nI sz) kd wt (nI k) (sp tx (fr k) (tt k)) (nI (S sz) + nI m) = some (0, upd kd (S sz + m) (nI 3), upd wt (S sz + m) (-1)) := by
        unfold fnX12_entry
        rw [hisn, bd1_s, if_pos rfl, vk_noplain c2, bd1_s, if_pos (by decide), vk_nocontrol c2, bd1_s, if_pos (by decide), ex]
        exact X12_entry (tx := tx) (F := F) (G := G) (names := names) (sz := sz) (kd := kd) (wt := wt) hx350 (k := nI k) (v := sp tx (fr k) (tt k)) (kk := 3) (ww := -1) (Or.inr (Or.inr (Or.inr ⟨rfl, c3⟩)))
      rw [if_neg (by decide), if_neg (by decide), if_neg (by decide), if_pos (by decide), if_neg (fun z => h59 (lg0.mp z)), he, bd3_s, if_pos rfl]
      exact wrong
end
