abbrev rmX9_rewind : Room := { frames := 0, cells := 0, slots := 0, locals := 0 }
set_option maxHeartbeats 4000000 in
set_option maxRecDepth 100000 in
theorem ctX9_rewind (l : Launch) (dC : Nat → ClassId) (dI : Nat → Nat → Nat) (cI cC cJ : ClassId) (aText aText_codes : Nat) (sz : Nat) (Text_length : Int32) (Text_wordStart : Int32) (Text_wordEnd : Int32) (Text_wordPlace : Int32)  (w_Text_wordEnd : Int32) (w_Text_wordPlace : Int32) (h : fnX9_rewind Text_wordEnd Text_wordPlace  = some (w_Text_wordEnd, w_Text_wordPlace)) : Met l yX9_rewind wsX9_rewind rmX9_rewind (va_Pc [.ref aText] (fun U => U.heap.size = sz ∧ va_P (dC, dI) vwCl [(aText, .inr (8, [.ref aText_codes, .int Text_length, .int Text_wordStart, .int Text_wordEnd, .int Text_wordPlace]))] U.heap ∧ va_K (dC, dI) vwCl [(cI, .int), (cC, .char), (cJ, .long)] U ∧ va_D (fun _ => True) [(aText, .inr (8, [.ref aText_codes, .int Text_length, .int Text_wordStart, .int Text_wordEnd, .int Text_wordPlace]))])) (va_Qv (fun (_ : Unit) => True) (fun _ t => va_P (dC, dI) vwCl [(aText, .inr (8, [.ref aText_codes, .int Text_length, .int Text_wordStart, .int w_Text_wordEnd, .int w_Text_wordPlace]))] t.heap ∧ va_K (dC, dI) vwCl [(cI, .int), (cC, .char), (cJ, .long)] t ∧ va_D (va_A [(aText, .inr (8, [.ref aText_codes, .int Text_length, .int Text_wordStart, .int Text_wordEnd, .int Text_wordPlace]))] sz) [(aText, .inr (8, [.ref aText_codes, .int Text_length, .int Text_wordStart, .int w_Text_wordEnd, .int w_Text_wordPlace]))]) (va_A [(aText, .inr (8, [.ref aText_codes, .int Text_length, .int Text_wordStart, .int Text_wordEnd, .int Text_wordPlace]))] sz)) 0 0 (va_A [(aText, .inr (8, [.ref aText_codes, .int Text_length, .int Text_wordStart, .int Text_wordEnd, .int Text_wordPlace]))] sz) := by
  refine Met.ofW (cc := cX9_rewind) (maxL := 1) (ret := none) (by decide) rfl ?_
  intro p e s m args below meth c s₁ B hml hv
  obtain ⟨hargs, hsz, hP, hK, hD0⟩ := hv
  have hx := B.exec
  have hb := B.bytes
  have hr := B.returns
  have hts := atoms_spec (ws := wsX9_rewind) B.pre
  have hown : s.vm.findClass RX9 = some m.cls := findClass_of_methodNamed B.named
  have hlocks := B.notSynchronized
  subst hsz
  have hD := hD0.self (sz := s.heap.size)
  generalize hAe : va_A [(aText, .inr (8, [.ref aText_codes, .int Text_length, .int Text_wordStart, .int Text_wordEnd, .int Text_wordPlace]))] s.heap.size = A at hD ⊢
  have hA : ∀ q : Nat, s.heap.size ≤ q → A q := fun q h => by rw [← hAe]; exact Or.inr h
  have hS : va_S A s.heap s.heap [] := va_S.rf
  have hl := lv_entry ([.ref aText]) (n := 1) (Nat.le_of_ble_eq_true rfl)
  have hfr : entryFrame m args 1 = entryFrame m ([.ref aText] : List Value).toArray 1 := by rw [hargs]
  rw [hfr, lg_entry_eq]
  generalize (lg_sl ([.ref aText]) ++ List.replicate (1 - (lg_sl ([.ref aText])).length) Slot.unset).toArray = ls at hl ⊢
  have hl : lv_has ls 1 [(0, .ref aText)] := hl
  refine nameQ_ (fun Q hQ => ?_)
  unfold fnX9_rewind at h
  refine lv_aload_n hx hb dX9_rewind_0 rfl (lv_at hl 0 rfl) ?_
  refine lv_iconst (v := (0 : Int32)) hx hb dX9_rewind_1 (by decide) ?_
  refine va_put (D := (dC, dI)) (ci := 8) (v := .int (0 : Int32)) (ty := .int) (C := RX9) (T := TX9) (N := 5) hx hb hts (fun w h => List.mem_cons_of_mem _ (inX9 w h)) tyX9 tyX9_ok nmX9 hown hK hP hD hS 0 rfl rfl 3 (by decide) (hts _ (List.mem_cons_of_mem _ mw_65)) (fun _ h9 => h9) rfl (by decide +kernel) rfl rfl (Nat.le_of_ble_eq_true rfl) dX9_rewind_2 (fun H locs hP hD hS => ?_)
  have hP : va_P (dC, dI) vwCl [(aText, .inr (8, [.ref aText_codes, .int Text_length, .int Text_wordStart, .int (0 : Int32), .int Text_wordPlace]))] H := hP
  have hD : va_D A [(aText, .inr (8, [.ref aText_codes, .int Text_length, .int Text_wordStart, .int (0 : Int32), .int Text_wordPlace]))] := hD
  refine lv_aload_n hx hb dX9_rewind_5 rfl (lv_at hl 0 rfl) ?_
  refine lv_iconst (v := (-1 : Int32)) hx hb dX9_rewind_6 (by decide) ?_
  refine va_put (D := (dC, dI)) (ci := 8) (v := .int (-1 : Int32)) (ty := .int) (C := RX9) (T := TX9) (N := 5) hx hb hts (fun w h => List.mem_cons_of_mem _ (inX9 w h)) tyX9 tyX9_ok nmX9 hown hK hP hD hS 0 rfl rfl 4 (by decide) (hts _ (List.mem_cons_of_mem _ mw_66)) (fun _ h9 => h9) rfl (by decide +kernel) rfl rfl (Nat.le_of_ble_eq_true rfl) dX9_rewind_7 (fun H locs hP hD hS => ?_)
  have hP : va_P (dC, dI) vwCl [(aText, .inr (8, [.ref aText_codes, .int Text_length, .int Text_wordStart, .int (0 : Int32), .int (-1 : Int32)]))] H := hP
  have hD : va_D A [(aText, .inr (8, [.ref aText_codes, .int Text_length, .int Text_wordStart, .int (0 : Int32), .int (-1 : Int32)]))] := hD
  cases h
  rw [hQ]
  exact W.vret hx hb hr (fun t ht hW => ⟨⟨(), rfl, trivial, by rw [ht]; exact hP, va_K.moved hW.alike hK, hD⟩, hS.F ht⟩) hS.2.2 dX9_rewind_10
abbrev rmX9_charAt : Room := { frames := 0, cells := 0, slots := 0, locals := 0 }
set_option maxHeartbeats 4000000 in
set_option maxRecDepth 100000 in
theorem ctX9_charAt (l : Launch) (dC : Nat → ClassId) (dI : Nat → Nat → Nat) (cI cC cJ : ClassId) (aText aText_codes : Nat) (sz : Nat) (Text_codes : Nat → Int32) (Text_length : Int32) (Text_wordStart : Int32) (Text_wordEnd : Int32) (Text_wordPlace : Int32) (p0 : Int32) (rr : Int32)  (h : fnX9_charAt Text_codes Text_length p0 = some rr) : Met l yX9_charAt wsX9_charAt rmX9_charAt (va_Pc [.ref aText, .int p0] (fun U => U.heap.size = sz ∧ va_P (dC, dI) vwCl [(aText, .inr (8, [.ref aText_codes, .int Text_length, .int Text_wordStart, .int Text_wordEnd, .int Text_wordPlace])), (aText_codes, .inl (cC, 300, .inl Text_codes))] U.heap ∧ va_K (dC, dI) vwCl [(cI, .int), (cC, .char), (cJ, .long)] U ∧ va_D (fun _ => True) [(aText, .inr (8, [.ref aText_codes, .int Text_length, .int Text_wordStart, .int Text_wordEnd, .int Text_wordPlace])), (aText_codes, .inl (cC, 300, .inl Text_codes))])) (va_Qi (fun r (_ : Unit) => r = rr) (fun _ t => va_P (dC, dI) vwCl [(aText, .inr (8, [.ref aText_codes, .int Text_length, .int Text_wordStart, .int Text_wordEnd, .int Text_wordPlace])), (aText_codes, .inl (cC, 300, .inl Text_codes))] t.heap ∧ va_K (dC, dI) vwCl [(cI, .int), (cC, .char), (cJ, .long)] t ∧ va_D (va_A [(aText, .inr (8, [.ref aText_codes, .int Text_length, .int Text_wordStart, .int Text_wordEnd, .int Text_wordPlace])), (aText_codes, .inl (cC, 300, .inl Text_codes))] sz) [(aText, .inr (8, [.ref aText_codes, .int Text_length, .int Text_wordStart, .int Text_wordEnd, .int Text_wordPlace])), (aText_codes, .inl (cC, 300, .inl Text_codes))]) (va_A [(aText, .inr (8, [.ref aText_codes, .int Text_length, .int Text_wordStart, .int Text_wordEnd, .int Text_wordPlace])), (aText_codes, .inl (cC, 300, .inl Text_codes))] sz)) 0 0 (va_A [(aText, .inr (8, [.ref aText_codes, .int Text_length, .int Text_wordStart, .int Text_wordEnd, .int Text_wordPlace])), (aText_codes, .inl (cC, 300, .inl Text_codes))] sz) := by
  refine Met.ofW (cc := cX9_charAt) (maxL := 2) (ret := (some .char)) (by decide) rfl ?_
  intro p e s m args below meth c s₁ B hml hv
  obtain ⟨hargs, hsz, hP, hK, hD0⟩ := hv
  have hx := B.exec
  have hb := B.bytes
  have hr := B.returns
  have hts := atoms_spec (ws := wsX9_charAt) B.pre
  have hown : s.vm.findClass RX9 = some m.cls := findClass_of_methodNamed B.named
  have hlocks := B.notSynchronized
  subst hsz
  have hD := hD0.self (sz := s.heap.size)
  generalize hAe : va_A [(aText, .inr (8, [.ref aText_codes, .int Text_length, .int Text_wordStart, .int Text_wordEnd, .int Text_wordPlace])), (aText_codes, .inl (cC, 300, .inl Text_codes))] s.heap.size = A at hD ⊢
  have hA : ∀ q : Nat, s.heap.size ≤ q → A q := fun q h => by rw [← hAe]; exact Or.inr h
  have hS : va_S A s.heap s.heap [] := va_S.rf
  have hl := lv_entry ([.ref aText, .int p0]) (n := 2) (Nat.le_of_ble_eq_true rfl)
  have hfr : entryFrame m args 2 = entryFrame m ([.ref aText, .int p0] : List Value).toArray 2 := by rw [hargs]
  rw [hfr, lg_entry_eq]
  generalize (lg_sl ([.ref aText, .int p0]) ++ List.replicate (2 - (lg_sl ([.ref aText, .int p0])).length) Slot.unset).toArray = ls at hl ⊢
  have hl : lv_has ls 2 [(0, .ref aText), (1, .int p0)] := hl
  refine nameQ_ (fun Q hQ => ?_)
  unfold fnX9_charAt at h
  refine lv_iload_n hx hb dX9_charAt_0 rfl (lv_at hl 1 rfl) ?_
  refine lv_if_lt (tgt := 30) hx hb dX9_charAt_1 (by decide) (fun c_1 => ?_) (fun c_1 => ?_)
  · have h := it_t c_1 h
    refine lv_bipush (v := (32 : Int32)) hx hb dX9_charAt_30 (by decide) ?_
    cases h
    rw [hQ]
    exact W.zret (ty := .char) hx hb hr rfl (fun t ht hW => ⟨⟨_, (), rfl, rfl, by rw [ht]; exact hP, va_K.moved hW.alike hK, hD⟩, hS.F ht⟩) hS.2.2 dX9_charAt_32
  · have h := it_f c_1 h
    refine lv_iload_n hx hb dX9_charAt_4 rfl (lv_at hl 1 rfl) ?_
    refine lv_aload_n hx hb dX9_charAt_5 rfl (lv_at hl 0 rfl) ?_
    refine va_get (D := (dC, dI)) (ci := 8) (v := .int Text_length) (C := RX9) (T := TX9) (N := 5) hx hb hts (fun w h => List.mem_cons_of_mem _ (inX9 w h)) hown hK hP 0 rfl rfl 1 (by decide) (hts _ (List.mem_cons_of_mem _ mw_67)) (fun _ h9 => h9) rfl dX9_charAt_6 ?_
    refine lv_icmp_ge (tgt := 30) hx hb dX9_charAt_9 (by decide) (fun c_2 => ?_) (fun c_2 => ?_)
    · have h := it_t c_2 h
      refine lv_bipush (v := (32 : Int32)) hx hb dX9_charAt_30 (by decide) ?_
      cases h
      rw [hQ]
      exact W.zret (ty := .char) hx hb hr rfl (fun t ht hW => ⟨⟨_, (), rfl, rfl, by rw [ht]; exact hP, va_K.moved hW.alike hK, hD⟩, hS.F ht⟩) hS.2.2 dX9_charAt_32
    · have h := it_f c_2 h
      refine lv_iload_n hx hb dX9_charAt_12 rfl (lv_at hl 1 rfl) ?_
      refine lv_aload_n hx hb dX9_charAt_13 rfl (lv_at hl 0 rfl) ?_
      refine va_get (D := (dC, dI)) (ci := 8) (v := .ref aText_codes) (C := RX9) (T := TX9) (N := 5) hx hb hts (fun w h => List.mem_cons_of_mem _ (inX9 w h)) hown hK hP 0 rfl rfl 0 (by decide) (hts _ (List.mem_cons_of_mem _ mw_68)) (fun _ h9 => h9) rfl dX9_charAt_14 ?_
      refine va_alen hx hb hK hP 1 1 rfl rfl (v := (300 : Int32)) rfl dX9_charAt_17 ?_
      refine lv_icmp_ge (tgt := 30) hx hb dX9_charAt_18 (by decide) (fun c_3 => ?_) (fun c_3 => ?_)
      · have h := it_t c_3 h
        refine lv_bipush (v := (32 : Int32)) hx hb dX9_charAt_30 (by decide) ?_
        cases h
        rw [hQ]
        exact W.zret (ty := .char) hx hb hr rfl (fun t ht hW => ⟨⟨_, (), rfl, rfl, by rw [ht]; exact hP, va_K.moved hW.alike hK, hD⟩, hS.F ht⟩) hS.2.2 dX9_charAt_32
      · have h := it_f c_3 h
        refine lv_aload_n hx hb dX9_charAt_21 rfl (lv_at hl 0 rfl) ?_
        refine va_get (D := (dC, dI)) (ci := 8) (v := .ref aText_codes) (C := RX9) (T := TX9) (N := 5) hx hb hts (fun w h => List.mem_cons_of_mem _ (inX9 w h)) hown hK hP 0 rfl rfl 0 (by decide) (hts _ (List.mem_cons_of_mem _ mw_68)) (fun _ h9 => h9) rfl dX9_charAt_22 ?_
        refine lv_iload_n hx hb dX9_charAt_25 rfl (lv_at hl 1 rfl) ?_
        obtain ⟨x_4, hi_5, h⟩ := bd1_some h
        obtain ⟨hi_5, ex_6⟩ := ga_some hi_5
        refine va_cald hx hb hK hP 1 1 rfl rfl hi_5 dX9_charAt_26 ?_
        rw [← ex_6]
        refine lv_goto (tgt := 32) hx hb dX9_charAt_27 (by decide) ?_
        obtain ⟨hg_7, h⟩ := gd_some h
        cases h
        rw [hQ]
        exact W.zret (ty := .char) hx hb hr (nar_C hg_7) (fun t ht hW => ⟨⟨_, (), rfl, rfl, by rw [ht]; exact hP, va_K.moved hW.alike hK, hD⟩, hS.F ht⟩) hS.2.2 dX9_charAt_32
abbrev rmX9_advance : Room := { frames := 1, cells := 0, slots := 0, locals := 21 }
set_option maxHeartbeats 4000000 in
set_option maxRecDepth 100000 in
theorem ctX9_advance (l : Launch) (dC : Nat → ClassId) (dI : Nat → Nat → Nat) (cI cC cJ : ClassId) (aText aText_codes : Nat) (sz : Nat) (Text_codes : Nat → Int32) (Text_length : Int32) (Text_wordStart : Int32) (Text_wordEnd : Int32) (Text_wordPlace : Int32)  (rr : Int32) (w_Text_wordStart : Int32) (w_Text_wordEnd : Int32) (w_Text_wordPlace : Int32) (h : fnX9_advance Text_codes Text_length Text_wordStart Text_wordEnd Text_wordPlace  = some (rr, w_Text_wordStart, w_Text_wordEnd, w_Text_wordPlace)) : Met l yX9_advance wsX9_advance rmX9_advance (va_Pc [.ref aText] (fun U => U.heap.size = sz ∧ va_P (dC, dI) vwCl [(aText, .inr (8, [.ref aText_codes, .int Text_length, .int Text_wordStart, .int Text_wordEnd, .int Text_wordPlace])), (aText_codes, .inl (cC, 300, .inl Text_codes))] U.heap ∧ va_K (dC, dI) vwCl [(cI, .int), (cC, .char), (cJ, .long)] U ∧ va_D (fun _ => True) [(aText, .inr (8, [.ref aText_codes, .int Text_length, .int Text_wordStart, .int Text_wordEnd, .int Text_wordPlace])), (aText_codes, .inl (cC, 300, .inl Text_codes))])) (va_Qi (fun r (_ : Unit) => r = rr) (fun _ t => va_P (dC, dI) vwCl [(aText, .inr (8, [.ref aText_codes, .int Text_length, .int w_Text_wordStart, .int w_Text_wordEnd, .int w_Text_wordPlace])), (aText_codes, .inl (cC, 300, .inl Text_codes))] t.heap ∧ va_K (dC, dI) vwCl [(cI, .int), (cC, .char), (cJ, .long)] t ∧ va_D (va_A [(aText, .inr (8, [.ref aText_codes, .int Text_length, .int Text_wordStart, .int Text_wordEnd, .int Text_wordPlace])), (aText_codes, .inl (cC, 300, .inl Text_codes))] sz) [(aText, .inr (8, [.ref aText_codes, .int Text_length, .int w_Text_wordStart, .int w_Text_wordEnd, .int w_Text_wordPlace])), (aText_codes, .inl (cC, 300, .inl Text_codes))]) (va_A [(aText, .inr (8, [.ref aText_codes, .int Text_length, .int Text_wordStart, .int Text_wordEnd, .int Text_wordPlace])), (aText_codes, .inl (cC, 300, .inl Text_codes))] sz)) 0 0 (va_A [(aText, .inr (8, [.ref aText_codes, .int Text_length, .int Text_wordStart, .int Text_wordEnd, .int Text_wordPlace])), (aText_codes, .inl (cC, 300, .inl Text_codes))] sz) := by
  refine Met.ofW (cc := cX9_advance) (maxL := 1) (ret := (some .boolean)) (by decide) rfl ?_
  intro p e s m args below meth c s₁ B hml hv
  obtain ⟨hargs, hsz, hP, hK, hD0⟩ := hv
  have hx := B.exec
  have hb := B.bytes
  have hr := B.returns
  have hts := atoms_spec (ws := wsX9_advance) B.pre
  have hown : s.vm.findClass RX9 = some m.cls := findClass_of_methodNamed B.named
  have hlocks := B.notSynchronized
  subst hsz
  have hD := hD0.self (sz := s.heap.size)
  generalize hAe : va_A [(aText, .inr (8, [.ref aText_codes, .int Text_length, .int Text_wordStart, .int Text_wordEnd, .int Text_wordPlace])), (aText_codes, .inl (cC, 300, .inl Text_codes))] s.heap.size = A at hD ⊢
  have hA : ∀ q : Nat, s.heap.size ≤ q → A q := fun q h => by rw [← hAe]; exact Or.inr h
  have hS : va_S A s.heap s.heap [] := va_S.rf
  have hl := lv_entry ([.ref aText]) (n := 1) (Nat.le_of_ble_eq_true rfl)
  have hfr : entryFrame m args 1 = entryFrame m ([.ref aText] : List Value).toArray 1 := by rw [hargs]
  rw [hfr, lg_entry_eq]
  generalize (lg_sl ([.ref aText]) ++ List.replicate (1 - (lg_sl ([.ref aText])).length) Slot.unset).toArray = ls at hl ⊢
  have hl : lv_has ls 1 [(0, .ref aText)] := hl
  refine nameQ_ (fun Q hQ => ?_)
  have hP : va_P (dC, dI) vwCl [(aText, .inr (8, [.ref aText_codes, .int Text_length, .int Text_wordStart, .int Text_wordEnd, .int Text_wordPlace])), (aText_codes, .inl (cC, 300, .inl Text_codes))] s.heap := hP
  have hj_90 : ∀ (Text_wordStart : Int32) (Text_wordEnd : Int32) (Text_wordPlace : Int32) (H : Heap) (locs : List Loc) (ls : Array Slot), fnX9_advance_90 Text_codes Text_length Text_wordStart Text_wordEnd Text_wordPlace = some (rr, w_Text_wordStart, w_Text_wordEnd, w_Text_wordPlace) → va_P (dC, dI) vwCl [(aText, .inr (8, [.ref aText_codes, .int Text_length, .int Text_wordStart, .int Text_wordEnd, .int Text_wordPlace])), (aText_codes, .inl (cC, 300, .inl Text_codes))] H → va_D A [(aText, .inr (8, [.ref aText_codes, .int Text_length, .int Text_wordStart, .int Text_wordEnd, .int Text_wordPlace])), (aText_codes, .inl (cC, 300, .inl Text_codes))] → va_S A s.heap H locs → lv_has ls 1 [(0, .ref aText)] → W p l e rmX9_advance s m args below meth c H locs 0 0 Q (F0 m 90 ls []) := by
    intro Text_wordStart Text_wordEnd Text_wordPlace H locs ls h hP hD hS hl
    unfold fnX9_advance_90 at h
    refine lv_aload_n hx hb dX9_advance_90 rfl (lv_at hl 0 rfl) ?_
    refine lv_dup hx hb dX9_advance_91 rfl ?_
    refine va_get (D := (dC, dI)) (ci := 8) (v := .int Text_wordPlace) (C := RX9) (T := TX9) (N := 5) hx hb hts (fun w h => List.mem_cons_of_mem _ (inX9 w h)) hown hK hP 0 rfl rfl 4 (by decide) (hts _ (List.mem_cons_of_mem _ mw_66)) (fun _ h9 => h9) rfl dX9_advance_92 ?_
    refine lv_iconst (v := (1 : Int32)) hx hb dX9_advance_95 (by decide) ?_
    refine lv_iadd hx hb dX9_advance_96 ?_
    refine va_put (D := (dC, dI)) (ci := 8) (v := .int (Text_wordPlace + (1 : Int32))) (ty := .int) (C := RX9) (T := TX9) (N := 5) hx hb hts (fun w h => List.mem_cons_of_mem _ (inX9 w h)) tyX9 tyX9_ok nmX9 hown hK hP hD hS 0 rfl rfl 4 (by decide) (hts _ (List.mem_cons_of_mem _ mw_66)) (fun _ h9 => h9) rfl (by decide +kernel) rfl rfl (Nat.le_of_ble_eq_true rfl) dX9_advance_97 (fun H locs hP hD hS => ?_)
    have hP : va_P (dC, dI) vwCl [(aText, .inr (8, [.ref aText_codes, .int Text_length, .int Text_wordStart, .int Text_wordEnd, .int (Text_wordPlace + (1 : Int32))])), (aText_codes, .inl (cC, 300, .inl Text_codes))] H := hP
    have hD : va_D A [(aText, .inr (8, [.ref aText_codes, .int Text_length, .int Text_wordStart, .int Text_wordEnd, .int (Text_wordPlace + (1 : Int32))])), (aText_codes, .inl (cC, 300, .inl Text_codes))] := hD
    refine lv_aload_n hx hb dX9_advance_100 rfl (lv_at hl 0 rfl) ?_
    refine va_get (D := (dC, dI)) (ci := 8) (v := .int Text_wordStart) (C := RX9) (T := TX9) (N := 5) hx hb hts (fun w h => List.mem_cons_of_mem _ (inX9 w h)) hown hK hP 0 rfl rfl 2 (by decide) (hts _ (List.mem_cons_of_mem _ mw_69)) (fun _ h9 => h9) rfl dX9_advance_101 ?_
    refine lv_aload_n hx hb dX9_advance_104 rfl (lv_at hl 0 rfl) ?_
    refine va_get (D := (dC, dI)) (ci := 8) (v := .int Text_wordEnd) (C := RX9) (T := TX9) (N := 5) hx hb hts (fun w h => List.mem_cons_of_mem _ (inX9 w h)) hown hK hP 0 rfl rfl 3 (by decide) (hts _ (List.mem_cons_of_mem _ mw_65)) (fun _ h9 => h9) rfl dX9_advance_105 ?_
    refine lv_icmp_ge (tgt := 115) hx hb dX9_advance_108 (by decide) (fun c_1 => ?_) (fun c_1 => ?_)
    · have h := it_t c_1 h
      refine lv_iconst (v := (0 : Int32)) hx hb dX9_advance_115 (by decide) ?_
      cases h
      rw [hQ]
      exact W.zret (ty := .boolean) hx hb hr rfl (fun t ht hW => ⟨⟨_, (), rfl, rfl, by rw [ht]; exact hP, va_K.moved hW.alike hK, hD⟩, hS.F ht⟩) hS.2.2 dX9_advance_116
    · have h := it_f c_1 h
      refine lv_iconst (v := (1 : Int32)) hx hb dX9_advance_111 (by decide) ?_
      refine lv_goto (tgt := 116) hx hb dX9_advance_112 (by decide) ?_
      cases h
      rw [hQ]
      exact W.zret (ty := .boolean) hx hb hr rfl (fun t ht hW => ⟨⟨_, (), rfl, rfl, by rw [ht]; exact hP, va_K.moved hW.alike hK, hD⟩, hS.F ht⟩) hS.2.2 dX9_advance_116
  have hj_53 : ∀ (n : Nat), ∀ (Text_wordStart : Int32) (Text_wordEnd : Int32) (Text_wordPlace : Int32) (H : Heap) (locs : List Loc) (ls : Array Slot), fnX9_advance_53 Text_codes Text_length n Text_wordStart Text_wordEnd Text_wordPlace = some (rr, w_Text_wordStart, w_Text_wordEnd, w_Text_wordPlace) → va_P (dC, dI) vwCl [(aText, .inr (8, [.ref aText_codes, .int Text_length, .int Text_wordStart, .int Text_wordEnd, .int Text_wordPlace])), (aText_codes, .inl (cC, 300, .inl Text_codes))] H → va_D A [(aText, .inr (8, [.ref aText_codes, .int Text_length, .int Text_wordStart, .int Text_wordEnd, .int Text_wordPlace])), (aText_codes, .inl (cC, 300, .inl Text_codes))] → va_S A s.heap H locs → lv_has ls 1 [(0, .ref aText)] → W p l e rmX9_advance s m args below meth c H locs 0 0 Q (F0 m 53 ls []) := by
    intro n
    induction n with
    | zero =>
      intro Text_wordStart Text_wordEnd Text_wordPlace H locs ls h
      cases h
    | succ n ih =>
      intro Text_wordStart Text_wordEnd Text_wordPlace H locs ls h hP hD hS hl
      rw [fnX9_advance_53] at h
      refine lv_aload_n hx hb dX9_advance_53 rfl (lv_at hl 0 rfl) ?_
      refine va_get (D := (dC, dI)) (ci := 8) (v := .int Text_wordEnd) (C := RX9) (T := TX9) (N := 5) hx hb hts (fun w h => List.mem_cons_of_mem _ (inX9 w h)) hown hK hP 0 rfl rfl 3 (by decide) (hts _ (List.mem_cons_of_mem _ mw_65)) (fun _ h9 => h9) rfl dX9_advance_54 ?_
      refine lv_aload_n hx hb dX9_advance_57 rfl (lv_at hl 0 rfl) ?_
      refine va_get (D := (dC, dI)) (ci := 8) (v := .int Text_length) (C := RX9) (T := TX9) (N := 5) hx hb hts (fun w h => List.mem_cons_of_mem _ (inX9 w h)) hown hK hP 0 rfl rfl 1 (by decide) (hts _ (List.mem_cons_of_mem _ mw_67)) (fun _ h9 => h9) rfl dX9_advance_58 ?_
      refine lv_icmp_ge (tgt := 90) hx hb dX9_advance_61 (by decide) (fun c_2 => ?_) (fun c_2 => ?_)
      · have h := it_t c_2 h
        exact hj_90 Text_wordStart Text_wordEnd Text_wordPlace _ _ _ h hP hD hS (lv_sub hl [0] rfl)
      · have h := it_f c_2 h
        refine lv_aload_n hx hb dX9_advance_64 rfl (lv_at hl 0 rfl) ?_
        refine lv_aload_n hx hb dX9_advance_65 rfl (lv_at hl 0 rfl) ?_
        refine va_get (D := (dC, dI)) (ci := 8) (v := .int Text_wordEnd) (C := RX9) (T := TX9) (N := 5) hx hb hts (fun w h => List.mem_cons_of_mem _ (inX9 w h)) hown hK hP 0 rfl rfl 3 (by decide) (hts _ (List.mem_cons_of_mem _ mw_65)) (fun _ h9 => h9) rfl dX9_advance_66 ?_
        obtain ⟨r_3, hc_3, h⟩ := bd1_some h
        have hPc := hP.sub (ws' := [(aText, .inr (8, [.ref aText_codes, .int Text_length, .int Text_wordStart, .int Text_wordEnd, .int Text_wordPlace])), (aText_codes, .inl (cC, 300, .inl Text_codes))]) [0, 1] rfl
        have hDc := hD.sub (ws' := [(aText, .inr (8, [.ref aText_codes, .int Text_length, .int Text_wordStart, .int Text_wordEnd, .int Text_wordPlace])), (aText_codes, .inl (cC, 300, .inl Text_codes))]) [0, 1] (by decide) rfl
        have hFc := va_free (wc := [(aText, .inr (8, [.ref aText_codes, .int Text_length, .int Text_wordStart, .int Text_wordEnd, .int Text_wordPlace])), (aText_codes, .inl (cC, 300, .inl Text_codes))]) hD hS hA [0, 1] rfl
        refine va_calli (va_runV (As := [.int Text_wordEnd]) (rest := []) ⟨hx, hb, hml, hown, hts⟩ (ctX9_charAt l dC dI cI cC cJ aText aText_codes _ Text_codes Text_length Text_wordStart Text_wordEnd Text_wordPlace Text_wordEnd r_3 hc_3) (cwV 1 hts (gV_ hc_ mw_70 mw_71 mw_72 mw_73 mw_74) rfl rfl rfl (by decide +kernel) ⟨Nat.le_of_ble_eq_true rfl, Nat.le_of_ble_eq_true rfl⟩) ⟨fun a U g mk q => by obtain ⟨q0, q1, qP, qK, qD⟩ := q; exact ⟨q0, q1, qP, va_K.moved (u := U) (U := U.calling g mk a) (Vm.Alike.refl U.vm) qK, qD⟩, va_recv hK hPc (ci := 8) (q0 := 0) rfl rfl, fun U hU hW => ⟨rfl, by rw [hU], by rw [hU]; exact hPc, va_K.moved hW.alike hK, hDc.weaken (fun _ _ _ _ => trivial)⟩⟩ rfl rfl hl.1 rfl (lv_room (Nat.le_of_ble_eq_true rfl)) dX9_advance_69 ⟨Nat.zero_le _, Nat.zero_le _⟩) hS (fun q _ h => hFc q h) hFc (fun r_3 u t H1 locs ht hvm hw hB hz1 hk1 hS => ?_)
        obtain ⟨hP1, hK1, hD1⟩ := hB
        rw [ht] at hP1
        subst hw
        obtain ⟨hP, hD⟩ := va_join (wr := []) (w1 := [(aText, .inr (8, [.ref aText_codes, .int Text_length, .int Text_wordStart, .int Text_wordEnd, .int Text_wordPlace])), (aText_codes, .inl (cC, 300, .inl Text_codes))]) hP hD [0, 1] [] rfl rfl (by decide) (by decide) hk1 hFc hP1 hD1
        generalize H1 = H at hP hS ⊢
        have hP : va_P (dC, dI) vwCl [(aText, .inr (8, [.ref aText_codes, .int Text_length, .int Text_wordStart, .int Text_wordEnd, .int Text_wordPlace])), (aText_codes, .inl (cC, 300, .inl Text_codes))] H := hP
        have hD : va_D A [(aText, .inr (8, [.ref aText_codes, .int Text_length, .int Text_wordStart, .int Text_wordEnd, .int Text_wordPlace])), (aText_codes, .inl (cC, 300, .inl Text_codes))] := hD
        refine lv_bipush (v := (32 : Int32)) hx hb dX9_advance_72 (by decide) ?_
        refine lv_icmp_eq (tgt := 90) hx hb dX9_advance_74 (by decide) (fun c_4 => ?_) (fun c_4 => ?_)
        · have h := it_t c_4 h
          exact hj_90 Text_wordStart Text_wordEnd Text_wordPlace _ _ _ h hP hD hS (lv_sub hl [0] rfl)
        · have h := it_f c_4 h
          refine lv_aload_n hx hb dX9_advance_77 rfl (lv_at hl 0 rfl) ?_
          refine lv_dup hx hb dX9_advance_78 rfl ?_
          refine va_get (D := (dC, dI)) (ci := 8) (v := .int Text_wordEnd) (C := RX9) (T := TX9) (N := 5) hx hb hts (fun w h => List.mem_cons_of_mem _ (inX9 w h)) hown hK hP 0 rfl rfl 3 (by decide) (hts _ (List.mem_cons_of_mem _ mw_65)) (fun _ h9 => h9) rfl dX9_advance_79 ?_
          refine lv_iconst (v := (1 : Int32)) hx hb dX9_advance_82 (by decide) ?_
          refine lv_iadd hx hb dX9_advance_83 ?_
          refine va_put (D := (dC, dI)) (ci := 8) (v := .int (Text_wordEnd + (1 : Int32))) (ty := .int) (C := RX9) (T := TX9) (N := 5) hx hb hts (fun w h => List.mem_cons_of_mem _ (inX9 w h)) tyX9 tyX9_ok nmX9 hown hK hP hD hS 0 rfl rfl 3 (by decide) (hts _ (List.mem_cons_of_mem _ mw_65)) (fun _ h9 => h9) rfl (by decide +kernel) rfl rfl (Nat.le_of_ble_eq_true rfl) dX9_advance_84 (fun H locs hP hD hS => ?_)
          have hP : va_P (dC, dI) vwCl [(aText, .inr (8, [.ref aText_codes, .int Text_length, .int Text_wordStart, .int (Text_wordEnd + (1 : Int32)), .int Text_wordPlace])), (aText_codes, .inl (cC, 300, .inl Text_codes))] H := hP
          have hD : va_D A [(aText, .inr (8, [.ref aText_codes, .int Text_length, .int Text_wordStart, .int (Text_wordEnd + (1 : Int32)), .int Text_wordPlace])), (aText_codes, .inl (cC, 300, .inl Text_codes))] := hD
          refine lv_goto (tgt := 53) hx hb dX9_advance_87 (by decide) ?_
          exact ih Text_wordStart (Text_wordEnd + (1 : Int32)) Text_wordPlace _ _ _ h hP hD hS (lv_sub hl [0] rfl)
  have hj_45 : ∀ (Text_wordStart : Int32) (Text_wordEnd : Int32) (Text_wordPlace : Int32) (H : Heap) (locs : List Loc) (ls : Array Slot), fnX9_advance_45 Text_codes Text_length Text_wordStart Text_wordEnd Text_wordPlace = some (rr, w_Text_wordStart, w_Text_wordEnd, w_Text_wordPlace) → va_P (dC, dI) vwCl [(aText, .inr (8, [.ref aText_codes, .int Text_length, .int Text_wordStart, .int Text_wordEnd, .int Text_wordPlace])), (aText_codes, .inl (cC, 300, .inl Text_codes))] H → va_D A [(aText, .inr (8, [.ref aText_codes, .int Text_length, .int Text_wordStart, .int Text_wordEnd, .int Text_wordPlace])), (aText_codes, .inl (cC, 300, .inl Text_codes))] → va_S A s.heap H locs → lv_has ls 1 [(0, .ref aText)] → W p l e rmX9_advance s m args below meth c H locs 0 0 Q (F0 m 45 ls []) := by
    intro Text_wordStart Text_wordEnd Text_wordPlace H locs ls h hP hD hS hl
    unfold fnX9_advance_45 at h
    refine lv_aload_n hx hb dX9_advance_45 rfl (lv_at hl 0 rfl) ?_
    refine lv_aload_n hx hb dX9_advance_46 rfl (lv_at hl 0 rfl) ?_
    refine va_get (D := (dC, dI)) (ci := 8) (v := .int Text_wordStart) (C := RX9) (T := TX9) (N := 5) hx hb hts (fun w h => List.mem_cons_of_mem _ (inX9 w h)) hown hK hP 0 rfl rfl 2 (by decide) (hts _ (List.mem_cons_of_mem _ mw_69)) (fun _ h9 => h9) rfl dX9_advance_47 ?_
    refine va_put (D := (dC, dI)) (ci := 8) (v := .int Text_wordStart) (ty := .int) (C := RX9) (T := TX9) (N := 5) hx hb hts (fun w h => List.mem_cons_of_mem _ (inX9 w h)) tyX9 tyX9_ok nmX9 hown hK hP hD hS 0 rfl rfl 3 (by decide) (hts _ (List.mem_cons_of_mem _ mw_65)) (fun _ h9 => h9) rfl (by decide +kernel) rfl rfl (Nat.le_of_ble_eq_true rfl) dX9_advance_50 (fun H locs hP hD hS => ?_)
    have hP : va_P (dC, dI) vwCl [(aText, .inr (8, [.ref aText_codes, .int Text_length, .int Text_wordStart, .int Text_wordStart, .int Text_wordPlace])), (aText_codes, .inl (cC, 300, .inl Text_codes))] H := hP
    have hD : va_D A [(aText, .inr (8, [.ref aText_codes, .int Text_length, .int Text_wordStart, .int Text_wordStart, .int Text_wordPlace])), (aText_codes, .inl (cC, 300, .inl Text_codes))] := hD
    exact hj_53 fuel_ Text_wordStart Text_wordStart Text_wordPlace _ _ _ h hP hD hS (lv_sub hl [0] rfl)
  have hj_8 : ∀ (n : Nat), ∀ (Text_wordStart : Int32) (Text_wordEnd : Int32) (Text_wordPlace : Int32) (H : Heap) (locs : List Loc) (ls : Array Slot), fnX9_advance_8 Text_codes Text_length n Text_wordStart Text_wordEnd Text_wordPlace = some (rr, w_Text_wordStart, w_Text_wordEnd, w_Text_wordPlace) → va_P (dC, dI) vwCl [(aText, .inr (8, [.ref aText_codes, .int Text_length, .int Text_wordStart, .int Text_wordEnd, .int Text_wordPlace])), (aText_codes, .inl (cC, 300, .inl Text_codes))] H → va_D A [(aText, .inr (8, [.ref aText_codes, .int Text_length, .int Text_wordStart, .int Text_wordEnd, .int Text_wordPlace])), (aText_codes, .inl (cC, 300, .inl Text_codes))] → va_S A s.heap H locs → lv_has ls 1 [(0, .ref aText)] → W p l e rmX9_advance s m args below meth c H locs 0 0 Q (F0 m 8 ls []) := by
    intro n
    induction n with
    | zero =>
      intro Text_wordStart Text_wordEnd Text_wordPlace H locs ls h
      cases h
    | succ n ih =>
      intro Text_wordStart Text_wordEnd Text_wordPlace H locs ls h hP hD hS hl
      rw [fnX9_advance_8] at h
      refine lv_aload_n hx hb dX9_advance_8 rfl (lv_at hl 0 rfl) ?_
      refine va_get (D := (dC, dI)) (ci := 8) (v := .int Text_wordStart) (C := RX9) (T := TX9) (N := 5) hx hb hts (fun w h => List.mem_cons_of_mem _ (inX9 w h)) hown hK hP 0 rfl rfl 2 (by decide) (hts _ (List.mem_cons_of_mem _ mw_69)) (fun _ h9 => h9) rfl dX9_advance_9 ?_
      refine lv_aload_n hx hb dX9_advance_12 rfl (lv_at hl 0 rfl) ?_
      refine va_get (D := (dC, dI)) (ci := 8) (v := .int Text_length) (C := RX9) (T := TX9) (N := 5) hx hb hts (fun w h => List.mem_cons_of_mem _ (inX9 w h)) hown hK hP 0 rfl rfl 1 (by decide) (hts _ (List.mem_cons_of_mem _ mw_67)) (fun _ h9 => h9) rfl dX9_advance_13 ?_
      refine lv_icmp_ge (tgt := 45) hx hb dX9_advance_16 (by decide) (fun c_5 => ?_) (fun c_5 => ?_)
      · have h := it_t c_5 h
        exact hj_45 Text_wordStart Text_wordEnd Text_wordPlace _ _ _ h hP hD hS (lv_sub hl [0] rfl)
      · have h := it_f c_5 h
        refine lv_aload_n hx hb dX9_advance_19 rfl (lv_at hl 0 rfl) ?_
        refine lv_aload_n hx hb dX9_advance_20 rfl (lv_at hl 0 rfl) ?_
        refine va_get (D := (dC, dI)) (ci := 8) (v := .int Text_wordStart) (C := RX9) (T := TX9) (N := 5) hx hb hts (fun w h => List.mem_cons_of_mem _ (inX9 w h)) hown hK hP 0 rfl rfl 2 (by decide) (hts _ (List.mem_cons_of_mem _ mw_69)) (fun _ h9 => h9) rfl dX9_advance_21 ?_
        obtain ⟨r_6, hc_6, h⟩ := bd1_some h
        have hPc := hP.sub (ws' := [(aText, .inr (8, [.ref aText_codes, .int Text_length, .int Text_wordStart, .int Text_wordEnd, .int Text_wordPlace])), (aText_codes, .inl (cC, 300, .inl Text_codes))]) [0, 1] rfl
        have hDc := hD.sub (ws' := [(aText, .inr (8, [.ref aText_codes, .int Text_length, .int Text_wordStart, .int Text_wordEnd, .int Text_wordPlace])), (aText_codes, .inl (cC, 300, .inl Text_codes))]) [0, 1] (by decide) rfl
        have hFc := va_free (wc := [(aText, .inr (8, [.ref aText_codes, .int Text_length, .int Text_wordStart, .int Text_wordEnd, .int Text_wordPlace])), (aText_codes, .inl (cC, 300, .inl Text_codes))]) hD hS hA [0, 1] rfl
        refine va_calli (va_runV (As := [.int Text_wordStart]) (rest := []) ⟨hx, hb, hml, hown, hts⟩ (ctX9_charAt l dC dI cI cC cJ aText aText_codes _ Text_codes Text_length Text_wordStart Text_wordEnd Text_wordPlace Text_wordStart r_6 hc_6) (cwV 1 hts (gV_ hc_ mw_70 mw_71 mw_72 mw_73 mw_74) rfl rfl rfl (by decide +kernel) ⟨Nat.le_of_ble_eq_true rfl, Nat.le_of_ble_eq_true rfl⟩) ⟨fun a U g mk q => by obtain ⟨q0, q1, qP, qK, qD⟩ := q; exact ⟨q0, q1, qP, va_K.moved (u := U) (U := U.calling g mk a) (Vm.Alike.refl U.vm) qK, qD⟩, va_recv hK hPc (ci := 8) (q0 := 0) rfl rfl, fun U hU hW => ⟨rfl, by rw [hU], by rw [hU]; exact hPc, va_K.moved hW.alike hK, hDc.weaken (fun _ _ _ _ => trivial)⟩⟩ rfl rfl hl.1 rfl (lv_room (Nat.le_of_ble_eq_true rfl)) dX9_advance_24 ⟨Nat.zero_le _, Nat.zero_le _⟩) hS (fun q _ h => hFc q h) hFc (fun r_6 u t H1 locs ht hvm hw hB hz1 hk1 hS => ?_)
        obtain ⟨hP1, hK1, hD1⟩ := hB
        rw [ht] at hP1
        subst hw
        obtain ⟨hP, hD⟩ := va_join (wr := []) (w1 := [(aText, .inr (8, [.ref aText_codes, .int Text_length, .int Text_wordStart, .int Text_wordEnd, .int Text_wordPlace])), (aText_codes, .inl (cC, 300, .inl Text_codes))]) hP hD [0, 1] [] rfl rfl (by decide) (by decide) hk1 hFc hP1 hD1
        generalize H1 = H at hP hS ⊢
        have hP : va_P (dC, dI) vwCl [(aText, .inr (8, [.ref aText_codes, .int Text_length, .int Text_wordStart, .int Text_wordEnd, .int Text_wordPlace])), (aText_codes, .inl (cC, 300, .inl Text_codes))] H := hP
        have hD : va_D A [(aText, .inr (8, [.ref aText_codes, .int Text_length, .int Text_wordStart, .int Text_wordEnd, .int Text_wordPlace])), (aText_codes, .inl (cC, 300, .inl Text_codes))] := hD
        refine lv_bipush (v := (32 : Int32)) hx hb dX9_advance_27 (by decide) ?_
        refine lv_icmp_ne (tgt := 45) hx hb dX9_advance_29 (by decide) (fun c_7 => ?_) (fun c_7 => ?_)
        · have h := it_f c_7 h
          exact hj_45 Text_wordStart Text_wordEnd Text_wordPlace _ _ _ h hP hD hS (lv_sub hl [0] rfl)
        · have h := it_t c_7 h
          refine lv_aload_n hx hb dX9_advance_32 rfl (lv_at hl 0 rfl) ?_
          refine lv_dup hx hb dX9_advance_33 rfl ?_
          refine va_get (D := (dC, dI)) (ci := 8) (v := .int Text_wordStart) (C := RX9) (T := TX9) (N := 5) hx hb hts (fun w h => List.mem_cons_of_mem _ (inX9 w h)) hown hK hP 0 rfl rfl 2 (by decide) (hts _ (List.mem_cons_of_mem _ mw_69)) (fun _ h9 => h9) rfl dX9_advance_34 ?_
          refine lv_iconst (v := (1 : Int32)) hx hb dX9_advance_37 (by decide) ?_
          refine lv_iadd hx hb dX9_advance_38 ?_
          refine va_put (D := (dC, dI)) (ci := 8) (v := .int (Text_wordStart + (1 : Int32))) (ty := .int) (C := RX9) (T := TX9) (N := 5) hx hb hts (fun w h => List.mem_cons_of_mem _ (inX9 w h)) tyX9 tyX9_ok nmX9 hown hK hP hD hS 0 rfl rfl 2 (by decide) (hts _ (List.mem_cons_of_mem _ mw_69)) (fun _ h9 => h9) rfl (by decide +kernel) rfl rfl (Nat.le_of_ble_eq_true rfl) dX9_advance_39 (fun H locs hP hD hS => ?_)
          have hP : va_P (dC, dI) vwCl [(aText, .inr (8, [.ref aText_codes, .int Text_length, .int (Text_wordStart + (1 : Int32)), .int Text_wordEnd, .int Text_wordPlace])), (aText_codes, .inl (cC, 300, .inl Text_codes))] H := hP
          have hD : va_D A [(aText, .inr (8, [.ref aText_codes, .int Text_length, .int (Text_wordStart + (1 : Int32)), .int Text_wordEnd, .int Text_wordPlace])), (aText_codes, .inl (cC, 300, .inl Text_codes))] := hD
          refine lv_goto (tgt := 8) hx hb dX9_advance_42 (by decide) ?_
          exact ih (Text_wordStart + (1 : Int32)) Text_wordEnd Text_wordPlace _ _ _ h hP hD hS (lv_sub hl [0] rfl)
  unfold fnX9_advance at h
  refine lv_aload_n hx hb dX9_advance_0 rfl (lv_at hl 0 rfl) ?_
  refine lv_aload_n hx hb dX9_advance_1 rfl (lv_at hl 0 rfl) ?_
  refine va_get (D := (dC, dI)) (ci := 8) (v := .int Text_wordEnd) (C := RX9) (T := TX9) (N := 5) hx hb hts (fun w h => List.mem_cons_of_mem _ (inX9 w h)) hown hK hP 0 rfl rfl 3 (by decide) (hts _ (List.mem_cons_of_mem _ mw_65)) (fun _ h9 => h9) rfl dX9_advance_2 ?_
  refine va_put (D := (dC, dI)) (ci := 8) (v := .int Text_wordEnd) (ty := .int) (C := RX9) (T := TX9) (N := 5) hx hb hts (fun w h => List.mem_cons_of_mem _ (inX9 w h)) tyX9 tyX9_ok nmX9 hown hK hP hD hS 0 rfl rfl 2 (by decide) (hts _ (List.mem_cons_of_mem _ mw_69)) (fun _ h9 => h9) rfl (by decide +kernel) rfl rfl (Nat.le_of_ble_eq_true rfl) dX9_advance_5 (fun H locs hP hD hS => ?_)
  have hP : va_P (dC, dI) vwCl [(aText, .inr (8, [.ref aText_codes, .int Text_length, .int Text_wordEnd, .int Text_wordEnd, .int Text_wordPlace])), (aText_codes, .inl (cC, 300, .inl Text_codes))] H := hP
  have hD : va_D A [(aText, .inr (8, [.ref aText_codes, .int Text_length, .int Text_wordEnd, .int Text_wordEnd, .int Text_wordPlace])), (aText_codes, .inl (cC, 300, .inl Text_codes))] := hD
  exact hj_8 fuel_ Text_wordEnd Text_wordEnd Text_wordPlace _ _ _ h hP hD hS (lv_sub hl [0] rfl)
abbrev rmX9_firstDigit : Room := { frames := 1, cells := 0, slots := 0, locals := 21 }
set_option maxHeartbeats 4000000 in
set_option maxRecDepth 100000 in
theorem ctX9_firstDigit (l : Launch) (dC : Nat → ClassId) (dI : Nat → Nat → Nat) (cI cC cJ : ClassId) (aText aText_codes : Nat) (sz : Nat) (Text_codes : Nat → Int32) (Text_length : Int32) (Text_wordStart : Int32) (Text_wordEnd : Int32) (Text_wordPlace : Int32)  (rr : Int32)  (h : fnX9_firstDigit Text_codes Text_length Text_wordStart  = some rr) : Met l yX9_firstDigit wsX9_firstDigit rmX9_firstDigit (va_Pc [.ref aText] (fun U => U.heap.size = sz ∧ va_P (dC, dI) vwCl [(aText, .inr (8, [.ref aText_codes, .int Text_length, .int Text_wordStart, .int Text_wordEnd, .int Text_wordPlace])), (aText_codes, .inl (cC, 300, .inl Text_codes))] U.heap ∧ va_K (dC, dI) vwCl [(cI, .int), (cC, .char), (cJ, .long)] U ∧ va_D (fun _ => True) [(aText, .inr (8, [.ref aText_codes, .int Text_length, .int Text_wordStart, .int Text_wordEnd, .int Text_wordPlace])), (aText_codes, .inl (cC, 300, .inl Text_codes))])) (va_Qi (fun r (_ : Unit) => r = rr) (fun _ t => va_P (dC, dI) vwCl [(aText, .inr (8, [.ref aText_codes, .int Text_length, .int Text_wordStart, .int Text_wordEnd, .int Text_wordPlace])), (aText_codes, .inl (cC, 300, .inl Text_codes))] t.heap ∧ va_K (dC, dI) vwCl [(cI, .int), (cC, .char), (cJ, .long)] t ∧ va_D (va_A [(aText, .inr (8, [.ref aText_codes, .int Text_length, .int Text_wordStart, .int Text_wordEnd, .int Text_wordPlace])), (aText_codes, .inl (cC, 300, .inl Text_codes))] sz) [(aText, .inr (8, [.ref aText_codes, .int Text_length, .int Text_wordStart, .int Text_wordEnd, .int Text_wordPlace])), (aText_codes, .inl (cC, 300, .inl Text_codes))]) (va_A [(aText, .inr (8, [.ref aText_codes, .int Text_length, .int Text_wordStart, .int Text_wordEnd, .int Text_wordPlace])), (aText_codes, .inl (cC, 300, .inl Text_codes))] sz)) 0 0 (va_A [(aText, .inr (8, [.ref aText_codes, .int Text_length, .int Text_wordStart, .int Text_wordEnd, .int Text_wordPlace])), (aText_codes, .inl (cC, 300, .inl Text_codes))] sz) := by
  refine Met.ofW (cc := cX9_firstDigit) (maxL := 1) (ret := (some .int)) (by decide) rfl ?_
  intro p e s m args below meth c s₁ B hml hv
  obtain ⟨hargs, hsz, hP, hK, hD0⟩ := hv
  have hx := B.exec
  have hb := B.bytes
  have hr := B.returns
  have hts := atoms_spec (ws := wsX9_firstDigit) B.pre
  have hown : s.vm.findClass RX9 = some m.cls := findClass_of_methodNamed B.named
  have hlocks := B.notSynchronized
  subst hsz
  have hD := hD0.self (sz := s.heap.size)
  generalize hAe : va_A [(aText, .inr (8, [.ref aText_codes, .int Text_length, .int Text_wordStart, .int Text_wordEnd, .int Text_wordPlace])), (aText_codes, .inl (cC, 300, .inl Text_codes))] s.heap.size = A at hD ⊢
  have hA : ∀ q : Nat, s.heap.size ≤ q → A q := fun q h => by rw [← hAe]; exact Or.inr h
  have hS : va_S A s.heap s.heap [] := va_S.rf
  have hl := lv_entry ([.ref aText]) (n := 1) (Nat.le_of_ble_eq_true rfl)
  have hfr : entryFrame m args 1 = entryFrame m ([.ref aText] : List Value).toArray 1 := by rw [hargs]
  rw [hfr, lg_entry_eq]
  generalize (lg_sl ([.ref aText]) ++ List.replicate (1 - (lg_sl ([.ref aText])).length) Slot.unset).toArray = ls at hl ⊢
  have hl : lv_has ls 1 [(0, .ref aText)] := hl
  refine nameQ_ (fun Q hQ => ?_)
  unfold fnX9_firstDigit at h
  refine lv_aload_n hx hb dX9_firstDigit_0 rfl (lv_at hl 0 rfl) ?_
  refine lv_aload_n hx hb dX9_firstDigit_1 rfl (lv_at hl 0 rfl) ?_
  refine va_get (D := (dC, dI)) (ci := 8) (v := .int Text_wordStart) (C := RX9) (T := TX9) (N := 5) hx hb hts (fun w h => List.mem_cons_of_mem _ (inX9 w h)) hown hK hP 0 rfl rfl 2 (by decide) (hts _ (List.mem_cons_of_mem _ mw_69)) (fun _ h9 => h9) rfl dX9_firstDigit_2 ?_
  obtain ⟨r_1, hc_1, h⟩ := bd1_some h
  have hPc := hP.sub (ws' := [(aText, .inr (8, [.ref aText_codes, .int Text_length, .int Text_wordStart, .int Text_wordEnd, .int Text_wordPlace])), (aText_codes, .inl (cC, 300, .inl Text_codes))]) [0, 1] rfl
  have hDc := hD.sub (ws' := [(aText, .inr (8, [.ref aText_codes, .int Text_length, .int Text_wordStart, .int Text_wordEnd, .int Text_wordPlace])), (aText_codes, .inl (cC, 300, .inl Text_codes))]) [0, 1] (by decide) rfl
  have hFc := va_free (wc := [(aText, .inr (8, [.ref aText_codes, .int Text_length, .int Text_wordStart, .int Text_wordEnd, .int Text_wordPlace])), (aText_codes, .inl (cC, 300, .inl Text_codes))]) hD hS hA [0, 1] rfl
  refine va_calli (va_runV (As := [.int Text_wordStart]) (rest := []) ⟨hx, hb, hml, hown, hts⟩ (ctX9_charAt l dC dI cI cC cJ aText aText_codes _ Text_codes Text_length Text_wordStart Text_wordEnd Text_wordPlace Text_wordStart r_1 hc_1) (cwV 1 hts (gV_ hc_ mw_70 mw_71 mw_72 mw_73 mw_74) rfl rfl rfl (by decide +kernel) ⟨Nat.le_of_ble_eq_true rfl, Nat.le_of_ble_eq_true rfl⟩) ⟨fun a U g mk q => by obtain ⟨q0, q1, qP, qK, qD⟩ := q; exact ⟨q0, q1, qP, va_K.moved (u := U) (U := U.calling g mk a) (Vm.Alike.refl U.vm) qK, qD⟩, va_recv hK hPc (ci := 8) (q0 := 0) rfl rfl, fun U hU hW => ⟨rfl, by rw [hU], by rw [hU]; exact hPc, va_K.moved hW.alike hK, hDc.weaken (fun _ _ _ _ => trivial)⟩⟩ rfl rfl hl.1 rfl (lv_room (Nat.le_of_ble_eq_true rfl)) dX9_firstDigit_5 ⟨Nat.zero_le _, Nat.zero_le _⟩) hS (fun q _ h => hFc q h) hFc (fun r_1 u t H1 locs ht hvm hw hB hz1 hk1 hS => ?_)
  obtain ⟨hP1, hK1, hD1⟩ := hB
  rw [ht] at hP1
  subst hw
  obtain ⟨hP, hD⟩ := va_join (wr := []) (w1 := [(aText, .inr (8, [.ref aText_codes, .int Text_length, .int Text_wordStart, .int Text_wordEnd, .int Text_wordPlace])), (aText_codes, .inl (cC, 300, .inl Text_codes))]) hP hD [0, 1] [] rfl rfl (by decide) (by decide) hk1 hFc hP1 hD1
  generalize H1 = H at hP hS ⊢
  have hP : va_P (dC, dI) vwCl [(aText, .inr (8, [.ref aText_codes, .int Text_length, .int Text_wordStart, .int Text_wordEnd, .int Text_wordPlace])), (aText_codes, .inl (cC, 300, .inl Text_codes))] H := hP
  have hD : va_D A [(aText, .inr (8, [.ref aText_codes, .int Text_length, .int Text_wordStart, .int Text_wordEnd, .int Text_wordPlace])), (aText_codes, .inl (cC, 300, .inl Text_codes))] := hD
  refine lv_bipush (v := (45 : Int32)) hx hb dX9_firstDigit_8 (by decide) ?_
  refine lv_icmp_ne (tgt := 22) hx hb dX9_firstDigit_10 (by decide) (fun c_2 => ?_) (fun c_2 => ?_)
  · have h := it_f c_2 h
    refine lv_aload_n hx hb dX9_firstDigit_22 rfl (lv_at hl 0 rfl) ?_
    refine va_get (D := (dC, dI)) (ci := 8) (v := .int Text_wordStart) (C := RX9) (T := TX9) (N := 5) hx hb hts (fun w h => List.mem_cons_of_mem _ (inX9 w h)) hown hK hP 0 rfl rfl 2 (by decide) (hts _ (List.mem_cons_of_mem _ mw_69)) (fun _ h9 => h9) rfl dX9_firstDigit_23 ?_
    cases h
    rw [hQ]
    exact W.iret hx hb hr (fun t ht hW => ⟨⟨_, (), rfl, rfl, by rw [ht]; exact hP, va_K.moved hW.alike hK, hD⟩, hS.F ht⟩) hS.2.2 dX9_firstDigit_26
  · have h := it_t c_2 h
    refine lv_aload_n hx hb dX9_firstDigit_13 rfl (lv_at hl 0 rfl) ?_
    refine va_get (D := (dC, dI)) (ci := 8) (v := .int Text_wordStart) (C := RX9) (T := TX9) (N := 5) hx hb hts (fun w h => List.mem_cons_of_mem _ (inX9 w h)) hown hK hP 0 rfl rfl 2 (by decide) (hts _ (List.mem_cons_of_mem _ mw_69)) (fun _ h9 => h9) rfl dX9_firstDigit_14 ?_
    refine lv_iconst (v := (1 : Int32)) hx hb dX9_firstDigit_17 (by decide) ?_
    refine lv_iadd hx hb dX9_firstDigit_18 ?_
    refine lv_goto (tgt := 26) hx hb dX9_firstDigit_19 (by decide) ?_
    cases h
    rw [hQ]
    exact W.iret hx hb hr (fun t ht hW => ⟨⟨_, (), rfl, rfl, by rw [ht]; exact hP, va_K.moved hW.alike hK, hD⟩, hS.F ht⟩) hS.2.2 dX9_firstDigit_26
abbrev rmX9_isNumber : Room := { frames := 2, cells := 0, slots := 0, locals := 41 }
set_option maxHeartbeats 4000000 in
set_option maxRecDepth 100000 in
theorem ctX9_isNumber (l : Launch) (dC : Nat → ClassId) (dI : Nat → Nat → Nat) (cI cC cJ : ClassId) (aText aText_codes : Nat) (sz : Nat) (Text_codes : Nat → Int32) (Text_length : Int32) (Text_wordStart : Int32) (Text_wordEnd : Int32) (Text_wordPlace : Int32)  (rr : Int32)  (h : fnX9_isNumber Text_codes Text_length Text_wordStart Text_wordEnd  = some rr) : Met l yX9_isNumber wsX9_isNumber rmX9_isNumber (va_Pc [.ref aText] (fun U => U.heap.size = sz ∧ va_P (dC, dI) vwCl [(aText, .inr (8, [.ref aText_codes, .int Text_length, .int Text_wordStart, .int Text_wordEnd, .int Text_wordPlace])), (aText_codes, .inl (cC, 300, .inl Text_codes))] U.heap ∧ va_K (dC, dI) vwCl [(cI, .int), (cC, .char), (cJ, .long)] U ∧ va_D (fun _ => True) [(aText, .inr (8, [.ref aText_codes, .int Text_length, .int Text_wordStart, .int Text_wordEnd, .int Text_wordPlace])), (aText_codes, .inl (cC, 300, .inl Text_codes))])) (va_Qi (fun r (_ : Unit) => r = rr) (fun _ t => va_P (dC, dI) vwCl [(aText, .inr (8, [.ref aText_codes, .int Text_length, .int Text_wordStart, .int Text_wordEnd, .int Text_wordPlace])), (aText_codes, .inl (cC, 300, .inl Text_codes))] t.heap ∧ va_K (dC, dI) vwCl [(cI, .int), (cC, .char), (cJ, .long)] t ∧ va_D (va_A [(aText, .inr (8, [.ref aText_codes, .int Text_length, .int Text_wordStart, .int Text_wordEnd, .int Text_wordPlace])), (aText_codes, .inl (cC, 300, .inl Text_codes))] sz) [(aText, .inr (8, [.ref aText_codes, .int Text_length, .int Text_wordStart, .int Text_wordEnd, .int Text_wordPlace])), (aText_codes, .inl (cC, 300, .inl Text_codes))]) (va_A [(aText, .inr (8, [.ref aText_codes, .int Text_length, .int Text_wordStart, .int Text_wordEnd, .int Text_wordPlace])), (aText_codes, .inl (cC, 300, .inl Text_codes))] sz)) 0 0 (va_A [(aText, .inr (8, [.ref aText_codes, .int Text_length, .int Text_wordStart, .int Text_wordEnd, .int Text_wordPlace])), (aText_codes, .inl (cC, 300, .inl Text_codes))] sz) := by
  refine Met.ofW (cc := cX9_isNumber) (maxL := 3) (ret := (some .boolean)) (by decide) rfl ?_
  intro p e s m args below meth c s₁ B hml hv
  obtain ⟨hargs, hsz, hP, hK, hD0⟩ := hv
  have hx := B.exec
  have hb := B.bytes
  have hr := B.returns
  have hts := atoms_spec (ws := wsX9_isNumber) B.pre
  have hown : s.vm.findClass RX9 = some m.cls := findClass_of_methodNamed B.named
  have hlocks := B.notSynchronized
  subst hsz
  have hD := hD0.self (sz := s.heap.size)
  generalize hAe : va_A [(aText, .inr (8, [.ref aText_codes, .int Text_length, .int Text_wordStart, .int Text_wordEnd, .int Text_wordPlace])), (aText_codes, .inl (cC, 300, .inl Text_codes))] s.heap.size = A at hD ⊢
  have hA : ∀ q : Nat, s.heap.size ≤ q → A q := fun q h => by rw [← hAe]; exact Or.inr h
  have hS : va_S A s.heap s.heap [] := va_S.rf
  have hl := lv_entry ([.ref aText]) (n := 3) (Nat.le_of_ble_eq_true rfl)
  have hfr : entryFrame m args 3 = entryFrame m ([.ref aText] : List Value).toArray 3 := by rw [hargs]
  rw [hfr, lg_entry_eq]
  generalize (lg_sl ([.ref aText]) ++ List.replicate (3 - (lg_sl ([.ref aText])).length) Slot.unset).toArray = ls at hl ⊢
  have hl : lv_has ls 3 [(0, .ref aText)] := hl
  refine nameQ_ (fun Q hQ => ?_)
  have hP : va_P (dC, dI) vwCl [(aText, .inr (8, [.ref aText_codes, .int Text_length, .int Text_wordStart, .int Text_wordEnd, .int Text_wordPlace])), (aText_codes, .inl (cC, 300, .inl Text_codes))] s.heap := hP
  have hj_28 : ∀ (n : Nat), ∀ (x2 : Int32) (H : Heap) (locs : List Loc) (ls : Array Slot), fnX9_isNumber_28 Text_codes Text_length Text_wordStart Text_wordEnd n x2 = some rr → va_P (dC, dI) vwCl [(aText, .inr (8, [.ref aText_codes, .int Text_length, .int Text_wordStart, .int Text_wordEnd, .int Text_wordPlace])), (aText_codes, .inl (cC, 300, .inl Text_codes))] H → va_D A [(aText, .inr (8, [.ref aText_codes, .int Text_length, .int Text_wordStart, .int Text_wordEnd, .int Text_wordPlace])), (aText_codes, .inl (cC, 300, .inl Text_codes))] → va_S A s.heap H locs → lv_has ls 3 [(2, .int x2), (0, .ref aText)] → W p l e rmX9_isNumber s m args below meth c H locs 0 0 Q (F0 m 28 ls []) := by
    intro n
    induction n with
    | zero =>
      intro x2 H locs ls h
      cases h
    | succ n ih =>
      intro x2 H locs ls h hP hD hS hl
      rw [fnX9_isNumber_28] at h
      refine lv_iload_n hx hb dX9_isNumber_28 rfl (lv_at hl 0 rfl) ?_
      refine lv_aload_n hx hb dX9_isNumber_29 rfl (lv_at hl 1 rfl) ?_
      refine va_get (D := (dC, dI)) (ci := 8) (v := .int Text_wordEnd) (C := RX9) (T := TX9) (N := 5) hx hb hts (fun w h => List.mem_cons_of_mem _ (inX9 w h)) hown hK hP 0 rfl rfl 3 (by decide) (hts _ (List.mem_cons_of_mem _ mw_65)) (fun _ h9 => h9) rfl dX9_isNumber_30 ?_
      refine lv_icmp_ge (tgt := 64) hx hb dX9_isNumber_33 (by decide) (fun c_1 => ?_) (fun c_1 => ?_)
      · have h := it_t c_1 h
        refine lv_iconst (v := (1 : Int32)) hx hb dX9_isNumber_64 (by decide) ?_
        cases h
        rw [hQ]
        exact W.zret (ty := .boolean) hx hb hr rfl (fun t ht hW => ⟨⟨_, (), rfl, rfl, by rw [ht]; exact hP, va_K.moved hW.alike hK, hD⟩, hS.F ht⟩) hS.2.2 dX9_isNumber_65
      · have h := it_f c_1 h
        refine lv_aload_n hx hb dX9_isNumber_36 rfl (lv_at hl 1 rfl) ?_
        refine lv_iload_n hx hb dX9_isNumber_37 rfl (lv_at hl 0 rfl) ?_
        obtain ⟨r_2, hc_2, h⟩ := bd1_some h
        have hPc := hP.sub (ws' := [(aText, .inr (8, [.ref aText_codes, .int Text_length, .int Text_wordStart, .int Text_wordEnd, .int Text_wordPlace])), (aText_codes, .inl (cC, 300, .inl Text_codes))]) [0, 1] rfl
        have hDc := hD.sub (ws' := [(aText, .inr (8, [.ref aText_codes, .int Text_length, .int Text_wordStart, .int Text_wordEnd, .int Text_wordPlace])), (aText_codes, .inl (cC, 300, .inl Text_codes))]) [0, 1] (by decide) rfl
        have hFc := va_free (wc := [(aText, .inr (8, [.ref aText_codes, .int Text_length, .int Text_wordStart, .int Text_wordEnd, .int Text_wordPlace])), (aText_codes, .inl (cC, 300, .inl Text_codes))]) hD hS hA [0, 1] rfl
        refine va_calli (va_runV (As := [.int x2]) (rest := []) ⟨hx, hb, hml, hown, hts⟩ (ctX9_charAt l dC dI cI cC cJ aText aText_codes _ Text_codes Text_length Text_wordStart Text_wordEnd Text_wordPlace x2 r_2 hc_2) (cwV 1 hts (gV_ hc_ mw_70 mw_71 mw_72 mw_73 mw_74) rfl rfl rfl (by decide +kernel) ⟨Nat.le_of_ble_eq_true rfl, Nat.le_of_ble_eq_true rfl⟩) ⟨fun a U g mk q => by obtain ⟨q0, q1, qP, qK, qD⟩ := q; exact ⟨q0, q1, qP, va_K.moved (u := U) (U := U.calling g mk a) (Vm.Alike.refl U.vm) qK, qD⟩, va_recv hK hPc (ci := 8) (q0 := 0) rfl rfl, fun U hU hW => ⟨rfl, by rw [hU], by rw [hU]; exact hPc, va_K.moved hW.alike hK, hDc.weaken (fun _ _ _ _ => trivial)⟩⟩ rfl rfl hl.1 rfl (lv_room (Nat.le_of_ble_eq_true rfl)) dX9_isNumber_38 ⟨Nat.zero_le _, Nat.zero_le _⟩) hS (fun q _ h => hFc q h) hFc (fun r_2 u t H1 locs ht hvm hw hB hz1 hk1 hS => ?_)
        obtain ⟨hP1, hK1, hD1⟩ := hB
        rw [ht] at hP1
        subst hw
        obtain ⟨hP, hD⟩ := va_join (wr := []) (w1 := [(aText, .inr (8, [.ref aText_codes, .int Text_length, .int Text_wordStart, .int Text_wordEnd, .int Text_wordPlace])), (aText_codes, .inl (cC, 300, .inl Text_codes))]) hP hD [0, 1] [] rfl rfl (by decide) (by decide) hk1 hFc hP1 hD1
        generalize H1 = H at hP hS ⊢
        have hP : va_P (dC, dI) vwCl [(aText, .inr (8, [.ref aText_codes, .int Text_length, .int Text_wordStart, .int Text_wordEnd, .int Text_wordPlace])), (aText_codes, .inl (cC, 300, .inl Text_codes))] H := hP
        have hD : va_D A [(aText, .inr (8, [.ref aText_codes, .int Text_length, .int Text_wordStart, .int Text_wordEnd, .int Text_wordPlace])), (aText_codes, .inl (cC, 300, .inl Text_codes))] := hD
        refine lv_bipush (v := (48 : Int32)) hx hb dX9_isNumber_41 (by decide) ?_
        refine lv_icmp_lt (tgt := 56) hx hb dX9_isNumber_43 (by decide) (fun c_3 => ?_) (fun c_3 => ?_)
        · have h := it_t c_3 h
          refine lv_iconst (v := (0 : Int32)) hx hb dX9_isNumber_56 (by decide) ?_
          cases h
          rw [hQ]
          exact W.zret (ty := .boolean) hx hb hr rfl (fun t ht hW => ⟨⟨_, (), rfl, rfl, by rw [ht]; exact hP, va_K.moved hW.alike hK, hD⟩, hS.F ht⟩) hS.2.2 dX9_isNumber_57
        · have h := it_f c_3 h
          refine lv_aload_n hx hb dX9_isNumber_46 rfl (lv_at hl 1 rfl) ?_
          refine lv_iload_n hx hb dX9_isNumber_47 rfl (lv_at hl 0 rfl) ?_
          obtain ⟨r_4, hc_4, h⟩ := bd1_some h
          have hPc := hP.sub (ws' := [(aText, .inr (8, [.ref aText_codes, .int Text_length, .int Text_wordStart, .int Text_wordEnd, .int Text_wordPlace])), (aText_codes, .inl (cC, 300, .inl Text_codes))]) [0, 1] rfl
          have hDc := hD.sub (ws' := [(aText, .inr (8, [.ref aText_codes, .int Text_length, .int Text_wordStart, .int Text_wordEnd, .int Text_wordPlace])), (aText_codes, .inl (cC, 300, .inl Text_codes))]) [0, 1] (by decide) rfl
          have hFc := va_free (wc := [(aText, .inr (8, [.ref aText_codes, .int Text_length, .int Text_wordStart, .int Text_wordEnd, .int Text_wordPlace])), (aText_codes, .inl (cC, 300, .inl Text_codes))]) hD hS hA [0, 1] rfl
          refine va_calli (va_runV (As := [.int x2]) (rest := []) ⟨hx, hb, hml, hown, hts⟩ (ctX9_charAt l dC dI cI cC cJ aText aText_codes _ Text_codes Text_length Text_wordStart Text_wordEnd Text_wordPlace x2 r_4 hc_4) (cwV 1 hts (gV_ hc_ mw_70 mw_71 mw_72 mw_73 mw_74) rfl rfl rfl (by decide +kernel) ⟨Nat.le_of_ble_eq_true rfl, Nat.le_of_ble_eq_true rfl⟩) ⟨fun a U g mk q => by obtain ⟨q0, q1, qP, qK, qD⟩ := q; exact ⟨q0, q1, qP, va_K.moved (u := U) (U := U.calling g mk a) (Vm.Alike.refl U.vm) qK, qD⟩, va_recv hK hPc (ci := 8) (q0 := 0) rfl rfl, fun U hU hW => ⟨rfl, by rw [hU], by rw [hU]; exact hPc, va_K.moved hW.alike hK, hDc.weaken (fun _ _ _ _ => trivial)⟩⟩ rfl rfl hl.1 rfl (lv_room (Nat.le_of_ble_eq_true rfl)) dX9_isNumber_48 ⟨Nat.zero_le _, Nat.zero_le _⟩) hS (fun q _ h => hFc q h) hFc (fun r_4 u t H1 locs ht hvm hw hB hz1 hk1 hS => ?_)
          obtain ⟨hP1, hK1, hD1⟩ := hB
          rw [ht] at hP1
          subst hw
          obtain ⟨hP, hD⟩ := va_join (wr := []) (w1 := [(aText, .inr (8, [.ref aText_codes, .int Text_length, .int Text_wordStart, .int Text_wordEnd, .int Text_wordPlace])), (aText_codes, .inl (cC, 300, .inl Text_codes))]) hP hD [0, 1] [] rfl rfl (by decide) (by decide) hk1 hFc hP1 hD1
          generalize H1 = H at hP hS ⊢
          have hP : va_P (dC, dI) vwCl [(aText, .inr (8, [.ref aText_codes, .int Text_length, .int Text_wordStart, .int Text_wordEnd, .int Text_wordPlace])), (aText_codes, .inl (cC, 300, .inl Text_codes))] H := hP
          have hD : va_D A [(aText, .inr (8, [.ref aText_codes, .int Text_length, .int Text_wordStart, .int Text_wordEnd, .int Text_wordPlace])), (aText_codes, .inl (cC, 300, .inl Text_codes))] := hD
          refine lv_bipush (v := (57 : Int32)) hx hb dX9_isNumber_51 (by decide) ?_
          refine lv_icmp_le (tgt := 58) hx hb dX9_isNumber_53 (by decide) (fun c_5 => ?_) (fun c_5 => ?_)
          · have h := it_t c_5 h
            refine lv_iinc (v := x2 + (1 : Int32)) (lv' := [(2, .int (x2 + (1 : Int32))), (0, .ref aText)]) hx hb dX9_isNumber_58 hl (k := 0) rfl rfl (by decide) rfl (fun ls hl => ?_)
            refine lv_goto (tgt := 28) hx hb dX9_isNumber_61 (by decide) ?_
            exact ih (x2 + (1 : Int32)) _ _ _ h hP hD hS (lv_sub hl [0, 1] rfl)
          · have h := it_f c_5 h
            refine lv_iconst (v := (0 : Int32)) hx hb dX9_isNumber_56 (by decide) ?_
            cases h
            rw [hQ]
            exact W.zret (ty := .boolean) hx hb hr rfl (fun t ht hW => ⟨⟨_, (), rfl, rfl, by rw [ht]; exact hP, va_K.moved hW.alike hK, hD⟩, hS.F ht⟩) hS.2.2 dX9_isNumber_57
  unfold fnX9_isNumber at h
  refine lv_aload_n hx hb dX9_isNumber_0 rfl (lv_at hl 0 rfl) ?_
  obtain ⟨r_6, hc_6, h⟩ := bd1_some h
  have hPc := hP.sub (ws' := [(aText, .inr (8, [.ref aText_codes, .int Text_length, .int Text_wordStart, .int Text_wordEnd, .int Text_wordPlace])), (aText_codes, .inl (cC, 300, .inl Text_codes))]) [0, 1] rfl
  have hDc := hD.sub (ws' := [(aText, .inr (8, [.ref aText_codes, .int Text_length, .int Text_wordStart, .int Text_wordEnd, .int Text_wordPlace])), (aText_codes, .inl (cC, 300, .inl Text_codes))]) [0, 1] (by decide) rfl
  have hFc := va_free (wc := [(aText, .inr (8, [.ref aText_codes, .int Text_length, .int Text_wordStart, .int Text_wordEnd, .int Text_wordPlace])), (aText_codes, .inl (cC, 300, .inl Text_codes))]) hD hS hA [0, 1] rfl
  refine va_calli (va_runV (As := []) (rest := []) ⟨hx, hb, hml, hown, hts⟩ (ctX9_firstDigit l dC dI cI cC cJ aText aText_codes _ Text_codes Text_length Text_wordStart Text_wordEnd Text_wordPlace r_6 hc_6) (cwV 0 hts (gV_ hc_ mw_75 mw_76 mw_77 mw_73 mw_78) rfl rfl rfl (by decide +kernel) ⟨Nat.le_of_ble_eq_true rfl, Nat.le_of_ble_eq_true rfl⟩) ⟨fun a U g mk q => by obtain ⟨q0, q1, qP, qK, qD⟩ := q; exact ⟨q0, q1, qP, va_K.moved (u := U) (U := U.calling g mk a) (Vm.Alike.refl U.vm) qK, qD⟩, va_recv hK hPc (ci := 8) (q0 := 0) rfl rfl, fun U hU hW => ⟨rfl, by rw [hU], by rw [hU]; exact hPc, va_K.moved hW.alike hK, hDc.weaken (fun _ _ _ _ => trivial)⟩⟩ rfl rfl hl.1 rfl (lv_room (Nat.le_of_ble_eq_true rfl)) dX9_isNumber_1 ⟨Nat.zero_le _, Nat.zero_le _⟩) hS (fun q _ h => hFc q h) hFc (fun r_6 u t H1 locs ht hvm hw hB hz1 hk1 hS => ?_)
  obtain ⟨hP1, hK1, hD1⟩ := hB
  rw [ht] at hP1
  subst hw
  obtain ⟨hP, hD⟩ := va_join (wr := []) (w1 := [(aText, .inr (8, [.ref aText_codes, .int Text_length, .int Text_wordStart, .int Text_wordEnd, .int Text_wordPlace])), (aText_codes, .inl (cC, 300, .inl Text_codes))]) hP hD [0, 1] [] rfl rfl (by decide) (by decide) hk1 hFc hP1 hD1
  generalize H1 = H at hP hS ⊢
  have hP : va_P (dC, dI) vwCl [(aText, .inr (8, [.ref aText_codes, .int Text_length, .int Text_wordStart, .int Text_wordEnd, .int Text_wordPlace])), (aText_codes, .inl (cC, 300, .inl Text_codes))] H := hP
  have hD : va_D A [(aText, .inr (8, [.ref aText_codes, .int Text_length, .int Text_wordStart, .int Text_wordEnd, .int Text_wordPlace])), (aText_codes, .inl (cC, 300, .inl Text_codes))] := hD
  refine lv_istore_n (lv' := [(1, .int r_6), (0, .ref aText)]) hx hb dX9_isNumber_4 rfl hl (by decide) rfl (fun ls hl => ?_)
  refine lv_iload_n hx hb dX9_isNumber_5 rfl (lv_at hl 0 rfl) ?_
  refine lv_aload_n hx hb dX9_isNumber_6 rfl (lv_at hl 1 rfl) ?_
  refine va_get (D := (dC, dI)) (ci := 8) (v := .int Text_wordEnd) (C := RX9) (T := TX9) (N := 5) hx hb hts (fun w h => List.mem_cons_of_mem _ (inX9 w h)) hown hK hP 0 rfl rfl 3 (by decide) (hts _ (List.mem_cons_of_mem _ mw_65)) (fun _ h9 => h9) rfl dX9_isNumber_7 ?_
  refine lv_icmp_ge (tgt := 24) hx hb dX9_isNumber_10 (by decide) (fun c_7 => ?_) (fun c_7 => ?_)
  · have h := it_t c_7 h
    refine lv_iconst (v := (0 : Int32)) hx hb dX9_isNumber_24 (by decide) ?_
    cases h
    rw [hQ]
    exact W.zret (ty := .boolean) hx hb hr rfl (fun t ht hW => ⟨⟨_, (), rfl, rfl, by rw [ht]; exact hP, va_K.moved hW.alike hK, hD⟩, hS.F ht⟩) hS.2.2 dX9_isNumber_25
  · have h := it_f c_7 h
    refine lv_aload_n hx hb dX9_isNumber_13 rfl (lv_at hl 1 rfl) ?_
    refine va_get (D := (dC, dI)) (ci := 8) (v := .int Text_wordEnd) (C := RX9) (T := TX9) (N := 5) hx hb hts (fun w h => List.mem_cons_of_mem _ (inX9 w h)) hown hK hP 0 rfl rfl 3 (by decide) (hts _ (List.mem_cons_of_mem _ mw_65)) (fun _ h9 => h9) rfl dX9_isNumber_14 ?_
    refine lv_iload_n hx hb dX9_isNumber_17 rfl (lv_at hl 0 rfl) ?_
    refine lv_isub hx hb dX9_isNumber_18 ?_
    refine lv_bipush (v := (9 : Int32)) hx hb dX9_isNumber_19 (by decide) ?_
    refine lv_icmp_le (tgt := 26) hx hb dX9_isNumber_21 (by decide) (fun c_8 => ?_) (fun c_8 => ?_)
    · have h := it_t c_8 h
      refine lv_iload_n hx hb dX9_isNumber_26 rfl (lv_at hl 0 rfl) ?_
      refine lv_istore_n (lv' := [(2, .int r_6), (1, .int r_6), (0, .ref aText)]) hx hb dX9_isNumber_27 rfl hl (by decide) rfl (fun ls hl => ?_)
      exact hj_28 fuel_ r_6 _ _ _ h hP hD hS (lv_sub hl [0, 2] rfl)
    · have h := it_f c_8 h
      refine lv_iconst (v := (0 : Int32)) hx hb dX9_isNumber_24 (by decide) ?_
      cases h
      rw [hQ]
      exact W.zret (ty := .boolean) hx hb hr rfl (fun t ht hW => ⟨⟨_, (), rfl, rfl, by rw [ht]; exact hP, va_K.moved hW.alike hK, hD⟩, hS.F ht⟩) hS.2.2 dX9_isNumber_25
abbrev rmX9_wordKey : Room := { frames := 1, cells := 0, slots := 0, locals := 21 }
set_option maxHeartbeats 4000000 in
set_option maxRecDepth 100000 in
theorem ctX9_wordKey (l : Launch) (dC : Nat → ClassId) (dI : Nat → Nat → Nat) (cI cC cJ : ClassId) (aText aText_codes : Nat) (sz : Nat) (Text_codes : Nat → Int32) (Text_length : Int32) (Text_wordStart : Int32) (Text_wordEnd : Int32) (Text_wordPlace : Int32)  (rr : Int64)  (h : fnX9_wordKey Text_codes Text_length Text_wordStart Text_wordEnd  = some rr) : Met l yX9_wordKey wsX9_wordKey rmX9_wordKey (va_Pc [.ref aText] (fun U => U.heap.size = sz ∧ va_P (dC, dI) vwCl [(aText, .inr (8, [.ref aText_codes, .int Text_length, .int Text_wordStart, .int Text_wordEnd, .int Text_wordPlace])), (aText_codes, .inl (cC, 300, .inl Text_codes))] U.heap ∧ va_K (dC, dI) vwCl [(cI, .int), (cC, .char), (cJ, .long)] U ∧ va_D (fun _ => True) [(aText, .inr (8, [.ref aText_codes, .int Text_length, .int Text_wordStart, .int Text_wordEnd, .int Text_wordPlace])), (aText_codes, .inl (cC, 300, .inl Text_codes))])) (va_Ql (fun r (_ : Unit) => r = rr) (fun _ t => va_P (dC, dI) vwCl [(aText, .inr (8, [.ref aText_codes, .int Text_length, .int Text_wordStart, .int Text_wordEnd, .int Text_wordPlace])), (aText_codes, .inl (cC, 300, .inl Text_codes))] t.heap ∧ va_K (dC, dI) vwCl [(cI, .int), (cC, .char), (cJ, .long)] t ∧ va_D (va_A [(aText, .inr (8, [.ref aText_codes, .int Text_length, .int Text_wordStart, .int Text_wordEnd, .int Text_wordPlace])), (aText_codes, .inl (cC, 300, .inl Text_codes))] sz) [(aText, .inr (8, [.ref aText_codes, .int Text_length, .int Text_wordStart, .int Text_wordEnd, .int Text_wordPlace])), (aText_codes, .inl (cC, 300, .inl Text_codes))]) (va_A [(aText, .inr (8, [.ref aText_codes, .int Text_length, .int Text_wordStart, .int Text_wordEnd, .int Text_wordPlace])), (aText_codes, .inl (cC, 300, .inl Text_codes))] sz)) 0 0 (va_A [(aText, .inr (8, [.ref aText_codes, .int Text_length, .int Text_wordStart, .int Text_wordEnd, .int Text_wordPlace])), (aText_codes, .inl (cC, 300, .inl Text_codes))] sz) := by
  refine Met.ofW (cc := cX9_wordKey) (maxL := 4) (ret := (some .long)) (by decide) rfl ?_
  intro p e s m args below meth c s₁ B hml hv
  obtain ⟨hargs, hsz, hP, hK, hD0⟩ := hv
  have hx := B.exec
  have hb := B.bytes
  have hr := B.returns
  have hts := atoms_spec (ws := wsX9_wordKey) B.pre
  have hown : s.vm.findClass RX9 = some m.cls := findClass_of_methodNamed B.named
  have hlocks := B.notSynchronized
  subst hsz
  have hD := hD0.self (sz := s.heap.size)
  generalize hAe : va_A [(aText, .inr (8, [.ref aText_codes, .int Text_length, .int Text_wordStart, .int Text_wordEnd, .int Text_wordPlace])), (aText_codes, .inl (cC, 300, .inl Text_codes))] s.heap.size = A at hD ⊢
  have hA : ∀ q : Nat, s.heap.size ≤ q → A q := fun q h => by rw [← hAe]; exact Or.inr h
  have hS : va_S A s.heap s.heap [] := va_S.rf
  have hl := lv_entry ([.ref aText]) (n := 4) (Nat.le_of_ble_eq_true rfl)
  have hfr : entryFrame m args 4 = entryFrame m ([.ref aText] : List Value).toArray 4 := by rw [hargs]
  rw [hfr, lg_entry_eq]
  generalize (lg_sl ([.ref aText]) ++ List.replicate (4 - (lg_sl ([.ref aText])).length) Slot.unset).toArray = ls at hl ⊢
  have hl : lv_has ls 4 [(0, .ref aText)] := hl
  refine nameQ_ (fun Q hQ => ?_)
  have hP : va_P (dC, dI) vwCl [(aText, .inr (8, [.ref aText_codes, .int Text_length, .int Text_wordStart, .int Text_wordEnd, .int Text_wordPlace])), (aText_codes, .inl (cC, 300, .inl Text_codes))] s.heap := hP
  have hj_25 : ∀ (n : Nat), ∀ (x1 : Int64) (x3 : Int32) (H : Heap) (locs : List Loc) (ls : Array Slot), fnX9_wordKey_25 Text_codes Text_length Text_wordStart Text_wordEnd n x1 x3 = some rr → va_P (dC, dI) vwCl [(aText, .inr (8, [.ref aText_codes, .int Text_length, .int Text_wordStart, .int Text_wordEnd, .int Text_wordPlace])), (aText_codes, .inl (cC, 300, .inl Text_codes))] H → va_D A [(aText, .inr (8, [.ref aText_codes, .int Text_length, .int Text_wordStart, .int Text_wordEnd, .int Text_wordPlace])), (aText_codes, .inl (cC, 300, .inl Text_codes))] → va_S A s.heap H locs → lv_has ls 4 [(1, .long x1), (3, .int x3), (0, .ref aText)] → W p l e rmX9_wordKey s m args below meth c H locs 0 0 Q (F0 m 25 ls []) := by
    intro n
    induction n with
    | zero =>
      intro x1 x3 H locs ls h
      cases h
    | succ n ih =>
      intro x1 x3 H locs ls h hP hD hS hl
      rw [fnX9_wordKey_25] at h
      refine lv_iload_n hx hb dX9_wordKey_25 rfl (lv_at hl 1 rfl) ?_
      refine lv_aload_n hx hb dX9_wordKey_26 rfl (lv_at hl 2 rfl) ?_
      refine va_get (D := (dC, dI)) (ci := 8) (v := .int Text_wordEnd) (C := RX9) (T := TX9) (N := 5) hx hb hts (fun w h => List.mem_cons_of_mem _ (inX9 w h)) hown hK hP 0 rfl rfl 3 (by decide) (hts _ (List.mem_cons_of_mem _ mw_65)) (fun _ h9 => h9) rfl dX9_wordKey_27 ?_
      refine lv_icmp_ge (tgt := 52) hx hb dX9_wordKey_30 (by decide) (fun c_1 => ?_) (fun c_1 => ?_)
      · have h := it_t c_1 h
        refine lv_lload_n hx hb dX9_wordKey_52 rfl (lv_at hl 0 rfl) ?_
        cases h
        rw [hQ]
        exact W.lret hx hb hr (fun t ht hW => ⟨⟨_, (), rfl, rfl, by rw [ht]; exact hP, va_K.moved hW.alike hK, hD⟩, hS.F ht⟩) hS.2.2 dX9_wordKey_53
      · have h := it_f c_1 h
        refine lv_lload_n hx hb dX9_wordKey_33 rfl (lv_at hl 0 rfl) ?_
        refine lv_ldc2 (v := (128 : Int64)) hx hb hown (hts _ (List.mem_cons_of_mem _ mw_79)) dX9_wordKey_34 ?_
        refine lv_lmul hx hb dX9_wordKey_37 ?_
        refine lv_aload_n hx hb dX9_wordKey_38 rfl (lv_at hl 2 rfl) ?_
        refine lv_iload_n hx hb dX9_wordKey_39 rfl (lv_at hl 1 rfl) ?_
        obtain ⟨r_2, hc_2, h⟩ := bd1_some h
        have hPc := hP.sub (ws' := [(aText, .inr (8, [.ref aText_codes, .int Text_length, .int Text_wordStart, .int Text_wordEnd, .int Text_wordPlace])), (aText_codes, .inl (cC, 300, .inl Text_codes))]) [0, 1] rfl
        have hDc := hD.sub (ws' := [(aText, .inr (8, [.ref aText_codes, .int Text_length, .int Text_wordStart, .int Text_wordEnd, .int Text_wordPlace])), (aText_codes, .inl (cC, 300, .inl Text_codes))]) [0, 1] (by decide) rfl
        have hFc := va_free (wc := [(aText, .inr (8, [.ref aText_codes, .int Text_length, .int Text_wordStart, .int Text_wordEnd, .int Text_wordPlace])), (aText_codes, .inl (cC, 300, .inl Text_codes))]) hD hS hA [0, 1] rfl
        refine va_calli (va_runV (As := [.int x3]) (rest := [.long (x1 * (128 : Int64))]) ⟨hx, hb, hml, hown, hts⟩ (ctX9_charAt l dC dI cI cC cJ aText aText_codes _ Text_codes Text_length Text_wordStart Text_wordEnd Text_wordPlace x3 r_2 hc_2) (cwV 1 hts (gV_ hc_ mw_70 mw_71 mw_72 mw_73 mw_74) rfl rfl rfl (by decide +kernel) ⟨Nat.le_of_ble_eq_true rfl, Nat.le_of_ble_eq_true rfl⟩) ⟨fun a U g mk q => by obtain ⟨q0, q1, qP, qK, qD⟩ := q; exact ⟨q0, q1, qP, va_K.moved (u := U) (U := U.calling g mk a) (Vm.Alike.refl U.vm) qK, qD⟩, va_recv hK hPc (ci := 8) (q0 := 0) rfl rfl, fun U hU hW => ⟨rfl, by rw [hU], by rw [hU]; exact hPc, va_K.moved hW.alike hK, hDc.weaken (fun _ _ _ _ => trivial)⟩⟩ rfl rfl hl.1 rfl (lv_room (Nat.le_of_ble_eq_true rfl)) dX9_wordKey_40 ⟨Nat.zero_le _, Nat.zero_le _⟩) hS (fun q _ h => hFc q h) hFc (fun r_2 u t H1 locs ht hvm hw hB hz1 hk1 hS => ?_)
        obtain ⟨hP1, hK1, hD1⟩ := hB
        rw [ht] at hP1
        subst hw
        obtain ⟨hP, hD⟩ := va_join (wr := []) (w1 := [(aText, .inr (8, [.ref aText_codes, .int Text_length, .int Text_wordStart, .int Text_wordEnd, .int Text_wordPlace])), (aText_codes, .inl (cC, 300, .inl Text_codes))]) hP hD [0, 1] [] rfl rfl (by decide) (by decide) hk1 hFc hP1 hD1
        generalize H1 = H at hP hS ⊢
        have hP : va_P (dC, dI) vwCl [(aText, .inr (8, [.ref aText_codes, .int Text_length, .int Text_wordStart, .int Text_wordEnd, .int Text_wordPlace])), (aText_codes, .inl (cC, 300, .inl Text_codes))] H := hP
        have hD : va_D A [(aText, .inr (8, [.ref aText_codes, .int Text_length, .int Text_wordStart, .int Text_wordEnd, .int Text_wordPlace])), (aText_codes, .inl (cC, 300, .inl Text_codes))] := hD
        refine lv_i2l (v := r_2.toInt64) hx hb dX9_wordKey_43 rfl ?_
        refine lv_ladd hx hb dX9_wordKey_44 ?_
        refine lv_lstore_n (lv' := [(1, .long ((x1 * (128 : Int64)) + r_2.toInt64)), (3, .int x3), (0, .ref aText)]) hx hb dX9_wordKey_45 rfl hl (by decide) rfl (fun ls hl => ?_)
        refine lv_iinc (v := x3 + (1 : Int32)) (lv' := [(3, .int (x3 + (1 : Int32))), (1, .long ((x1 * (128 : Int64)) + r_2.toInt64)), (0, .ref aText)]) hx hb dX9_wordKey_46 hl (k := 1) rfl rfl (by decide) rfl (fun ls hl => ?_)
        refine lv_goto (tgt := 25) hx hb dX9_wordKey_49 (by decide) ?_
        exact ih ((x1 * (128 : Int64)) + r_2.toInt64) (x3 + (1 : Int32)) _ _ _ h hP hD hS (lv_sub hl [1, 0, 2] rfl)
  unfold fnX9_wordKey at h
  refine lv_aload_n hx hb dX9_wordKey_0 rfl (lv_at hl 0 rfl) ?_
  refine va_get (D := (dC, dI)) (ci := 8) (v := .int Text_wordEnd) (C := RX9) (T := TX9) (N := 5) hx hb hts (fun w h => List.mem_cons_of_mem _ (inX9 w h)) hown hK hP 0 rfl rfl 3 (by decide) (hts _ (List.mem_cons_of_mem _ mw_65)) (fun _ h9 => h9) rfl dX9_wordKey_1 ?_
  refine lv_aload_n hx hb dX9_wordKey_4 rfl (lv_at hl 0 rfl) ?_
  refine va_get (D := (dC, dI)) (ci := 8) (v := .int Text_wordStart) (C := RX9) (T := TX9) (N := 5) hx hb hts (fun w h => List.mem_cons_of_mem _ (inX9 w h)) hown hK hP 0 rfl rfl 2 (by decide) (hts _ (List.mem_cons_of_mem _ mw_69)) (fun _ h9 => h9) rfl dX9_wordKey_5 ?_
  refine lv_isub hx hb dX9_wordKey_8 ?_
  refine lv_bipush (v := (7 : Int32)) hx hb dX9_wordKey_9 (by decide) ?_
  refine lv_icmp_le (tgt := 18) hx hb dX9_wordKey_11 (by decide) (fun c_3 => ?_) (fun c_3 => ?_)
  · have h := it_t c_3 h
    refine lv_lconst (v := (0 : Int64)) hx hb dX9_wordKey_18 (by decide) ?_
    refine lv_lstore_n (lv' := [(1, .long (0 : Int64)), (0, .ref aText)]) hx hb dX9_wordKey_19 rfl hl (by decide) rfl (fun ls hl => ?_)
    refine lv_aload_n hx hb dX9_wordKey_20 rfl (lv_at hl 1 rfl) ?_
    refine va_get (D := (dC, dI)) (ci := 8) (v := .int Text_wordStart) (C := RX9) (T := TX9) (N := 5) hx hb hts (fun w h => List.mem_cons_of_mem _ (inX9 w h)) hown hK hP 0 rfl rfl 2 (by decide) (hts _ (List.mem_cons_of_mem _ mw_69)) (fun _ h9 => h9) rfl dX9_wordKey_21 ?_
    refine lv_istore_n (lv' := [(3, .int Text_wordStart), (1, .long (0 : Int64)), (0, .ref aText)]) hx hb dX9_wordKey_24 rfl hl (by decide) rfl (fun ls hl => ?_)
    exact hj_25 fuel_ (0 : Int64) Text_wordStart _ _ _ h hP hD hS (lv_sub hl [1, 0, 2] rfl)
  · have h := it_f c_3 h
    refine lv_ldc2 (v := (-1 : Int64)) hx hb hown (hts _ (List.mem_cons_of_mem _ mw_80)) dX9_wordKey_14 ?_
    cases h
    rw [hQ]
    exact W.lret hx hb hr (fun t ht hW => ⟨⟨_, (), rfl, rfl, by rw [ht]; exact hP, va_K.moved hW.alike hK, hD⟩, hS.F ht⟩) hS.2.2 dX9_wordKey_17
abbrev rmX10_find : Room := { frames := 0, cells := 0, slots := 0, locals := 0 }
set_option maxHeartbeats 4000000 in
set_option maxRecDepth 100000 in
theorem ctX10_find (l : Launch) (dC : Nat → ClassId) (dI : Nat → Nat → Nat) (cI cC cJ : ClassId) (aVocabulary aVocabulary_keys : Nat) (sz : Nat) (Vocabulary_keys : Nat → Int64) (p0 : Int64) (rr : Int32)  (h : fnX10_find Vocabulary_keys p0 = some rr) : Met l yX10_find wsX10_find rmX10_find (va_Pc [.ref aVocabulary, .long p0] (fun U => U.heap.size = sz ∧ va_P (dC, dI) vwCl [(aVocabulary, .inr (9, [.ref aVocabulary_keys])), (aVocabulary_keys, .inl (cJ, 49, .inr (.inl Vocabulary_keys)))] U.heap ∧ va_K (dC, dI) vwCl [(cI, .int), (cC, .char), (cJ, .long)] U ∧ va_D (fun _ => True) [(aVocabulary, .inr (9, [.ref aVocabulary_keys])), (aVocabulary_keys, .inl (cJ, 49, .inr (.inl Vocabulary_keys)))])) (va_Qi (fun r (_ : Unit) => r = rr) (fun _ t => va_P (dC, dI) vwCl [(aVocabulary, .inr (9, [.ref aVocabulary_keys])), (aVocabulary_keys, .inl (cJ, 49, .inr (.inl Vocabulary_keys)))] t.heap ∧ va_K (dC, dI) vwCl [(cI, .int), (cC, .char), (cJ, .long)] t ∧ va_D (va_A [(aVocabulary, .inr (9, [.ref aVocabulary_keys])), (aVocabulary_keys, .inl (cJ, 49, .inr (.inl Vocabulary_keys)))] sz) [(aVocabulary, .inr (9, [.ref aVocabulary_keys])), (aVocabulary_keys, .inl (cJ, 49, .inr (.inl Vocabulary_keys)))]) (va_A [(aVocabulary, .inr (9, [.ref aVocabulary_keys])), (aVocabulary_keys, .inl (cJ, 49, .inr (.inl Vocabulary_keys)))] sz)) 0 0 (va_A [(aVocabulary, .inr (9, [.ref aVocabulary_keys])), (aVocabulary_keys, .inl (cJ, 49, .inr (.inl Vocabulary_keys)))] sz) := by
  refine Met.ofW (cc := cX10_find) (maxL := 4) (ret := (some .int)) (by decide) rfl ?_
  intro p e s m args below meth c s₁ B hml hv
  obtain ⟨hargs, hsz, hP, hK, hD0⟩ := hv
  have hx := B.exec
  have hb := B.bytes
  have hr := B.returns
  have hts := atoms_spec (ws := wsX10_find) B.pre
  have hown : s.vm.findClass RX10 = some m.cls := findClass_of_methodNamed B.named
  have hlocks := B.notSynchronized
  subst hsz
  have hD := hD0.self (sz := s.heap.size)
  generalize hAe : va_A [(aVocabulary, .inr (9, [.ref aVocabulary_keys])), (aVocabulary_keys, .inl (cJ, 49, .inr (.inl Vocabulary_keys)))] s.heap.size = A at hD ⊢
  have hA : ∀ q : Nat, s.heap.size ≤ q → A q := fun q h => by rw [← hAe]; exact Or.inr h
  have hS : va_S A s.heap s.heap [] := va_S.rf
  have hl := lv_entry ([.ref aVocabulary, .long p0]) (n := 4) (Nat.le_of_ble_eq_true rfl)
  have hfr : entryFrame m args 4 = entryFrame m ([.ref aVocabulary, .long p0] : List Value).toArray 4 := by rw [hargs]
  rw [hfr, lg_entry_eq]
  generalize (lg_sl ([.ref aVocabulary, .long p0]) ++ List.replicate (4 - (lg_sl ([.ref aVocabulary, .long p0])).length) Slot.unset).toArray = ls at hl ⊢
  have hl : lv_has ls 4 [(0, .ref aVocabulary), (1, .long p0)] := hl
  refine nameQ_ (fun Q hQ => ?_)
  have hP : va_P (dC, dI) vwCl [(aVocabulary, .inr (9, [.ref aVocabulary_keys])), (aVocabulary_keys, .inl (cJ, 49, .inr (.inl Vocabulary_keys)))] s.heap := hP
  have hj_2 : ∀ (n : Nat), ∀ (x1 : Int64) (x3 : Int32) (H : Heap) (locs : List Loc) (ls : Array Slot), fnX10_find_2 Vocabulary_keys n x1 x3 = some rr → va_P (dC, dI) vwCl [(aVocabulary, .inr (9, [.ref aVocabulary_keys])), (aVocabulary_keys, .inl (cJ, 49, .inr (.inl Vocabulary_keys)))] H → va_D A [(aVocabulary, .inr (9, [.ref aVocabulary_keys])), (aVocabulary_keys, .inl (cJ, 49, .inr (.inl Vocabulary_keys)))] → va_S A s.heap H locs → lv_has ls 4 [(1, .long x1), (3, .int x3), (0, .ref aVocabulary)] → W p l e rmX10_find s m args below meth c H locs 0 0 Q (F0 m 2 ls []) := by
    intro n
    induction n with
    | zero =>
      intro x1 x3 H locs ls h
      cases h
    | succ n ih =>
      intro x1 x3 H locs ls h hP hD hS hl
      rw [fnX10_find_2] at h
      refine lv_iload_n hx hb dX10_find_2 rfl (lv_at hl 1 rfl) ?_
      refine lv_aload_n hx hb dX10_find_3 rfl (lv_at hl 2 rfl) ?_
      refine va_get (D := (dC, dI)) (ci := 9) (v := .ref aVocabulary_keys) (C := RX10) (T := TX10) (N := 1) hx hb hts (fun w h => List.mem_cons_of_mem _ (inX10 w h)) hown hK hP 0 rfl rfl 0 (by decide) (hts _ (List.mem_cons_of_mem _ mw_81)) (fun _ h9 => h9) rfl dX10_find_4 ?_
      refine va_alen hx hb hK hP 1 2 rfl rfl (v := (49 : Int32)) rfl dX10_find_7 ?_
      refine lv_icmp_ge (tgt := 30) hx hb dX10_find_8 (by decide) (fun c_1 => ?_) (fun c_1 => ?_)
      · have h := it_t c_1 h
        refine lv_bipush (v := (52 : Int32)) hx hb dX10_find_30 (by decide) ?_
        cases h
        rw [hQ]
        exact W.iret hx hb hr (fun t ht hW => ⟨⟨_, (), rfl, rfl, by rw [ht]; exact hP, va_K.moved hW.alike hK, hD⟩, hS.F ht⟩) hS.2.2 dX10_find_32
      · have h := it_f c_1 h
        refine lv_aload_n hx hb dX10_find_11 rfl (lv_at hl 2 rfl) ?_
        refine va_get (D := (dC, dI)) (ci := 9) (v := .ref aVocabulary_keys) (C := RX10) (T := TX10) (N := 1) hx hb hts (fun w h => List.mem_cons_of_mem _ (inX10 w h)) hown hK hP 0 rfl rfl 0 (by decide) (hts _ (List.mem_cons_of_mem _ mw_81)) (fun _ h9 => h9) rfl dX10_find_12 ?_
        refine lv_iload_n hx hb dX10_find_15 rfl (lv_at hl 1 rfl) ?_
        obtain ⟨x_2, hi_3, h⟩ := bd1_some h
        obtain ⟨hi_3, ex_4⟩ := ga_some hi_3
        refine va_lald hx hb hK hP 1 2 rfl rfl hi_3 dX10_find_16 ?_
        rw [← ex_4]
        refine lv_lload_n hx hb dX10_find_17 rfl (lv_at hl 0 rfl) ?_
        refine W.lcmp hx hb dX10_find_18 ?_
        refine lv_if_ne (tgt := 24) hx hb dX10_find_19 (by decide) (fun c_5 => ?_) (fun c_5 => ?_)
        · have h := it_f c_5 h
          refine lv_iinc (v := x3 + (1 : Int32)) (lv' := [(3, .int (x3 + (1 : Int32))), (1, .long x1), (0, .ref aVocabulary)]) hx hb dX10_find_24 hl (k := 1) rfl rfl (by decide) rfl (fun ls hl => ?_)
          refine lv_goto (tgt := 2) hx hb dX10_find_27 (by decide) ?_
          exact ih x1 (x3 + (1 : Int32)) _ _ _ h hP hD hS (lv_sub hl [1, 0, 2] rfl)
        · have h := it_t c_5 h
          refine lv_iload_n hx hb dX10_find_22 rfl (lv_at hl 1 rfl) ?_
          cases h
          rw [hQ]
          exact W.iret hx hb hr (fun t ht hW => ⟨⟨_, (), rfl, rfl, by rw [ht]; exact hP, va_K.moved hW.alike hK, hD⟩, hS.F ht⟩) hS.2.2 dX10_find_23
  unfold fnX10_find at h
  refine lv_iconst (v := (0 : Int32)) hx hb dX10_find_0 (by decide) ?_
  refine lv_istore_n (lv' := [(3, .int (0 : Int32)), (0, .ref aVocabulary), (1, .long p0)]) hx hb dX10_find_1 rfl hl (by decide) rfl (fun ls hl => ?_)
  exact hj_2 fuel_ p0 (0 : Int32) _ _ _ h hP hD hS (lv_sub hl [2, 0, 1] rfl)
abbrev rmX9_wordLength : Room := { frames := 0, cells := 0, slots := 0, locals := 0 }
set_option maxHeartbeats 4000000 in
set_option maxRecDepth 100000 in
theorem ctX9_wordLength (l : Launch) (dC : Nat → ClassId) (dI : Nat → Nat → Nat) (cI cC cJ : ClassId) (aText aText_codes : Nat) (sz : Nat) (Text_length : Int32) (Text_wordStart : Int32) (Text_wordEnd : Int32) (Text_wordPlace : Int32)  (rr : Int32)  (h : fnX9_wordLength Text_wordStart Text_wordEnd  = some rr) : Met l yX9_wordLength wsX9_wordLength rmX9_wordLength (va_Pc [.ref aText] (fun U => U.heap.size = sz ∧ va_P (dC, dI) vwCl [(aText, .inr (8, [.ref aText_codes, .int Text_length, .int Text_wordStart, .int Text_wordEnd, .int Text_wordPlace]))] U.heap ∧ va_K (dC, dI) vwCl [(cI, .int), (cC, .char), (cJ, .long)] U ∧ va_D (fun _ => True) [(aText, .inr (8, [.ref aText_codes, .int Text_length, .int Text_wordStart, .int Text_wordEnd, .int Text_wordPlace]))])) (va_Qi (fun r (_ : Unit) => r = rr) (fun _ t => va_P (dC, dI) vwCl [(aText, .inr (8, [.ref aText_codes, .int Text_length, .int Text_wordStart, .int Text_wordEnd, .int Text_wordPlace]))] t.heap ∧ va_K (dC, dI) vwCl [(cI, .int), (cC, .char), (cJ, .long)] t ∧ va_D (va_A [(aText, .inr (8, [.ref aText_codes, .int Text_length, .int Text_wordStart, .int Text_wordEnd, .int Text_wordPlace]))] sz) [(aText, .inr (8, [.ref aText_codes, .int Text_length, .int Text_wordStart, .int Text_wordEnd, .int Text_wordPlace]))]) (va_A [(aText, .inr (8, [.ref aText_codes, .int Text_length, .int Text_wordStart, .int Text_wordEnd, .int Text_wordPlace]))] sz)) 0 0 (va_A [(aText, .inr (8, [.ref aText_codes, .int Text_length, .int Text_wordStart, .int Text_wordEnd, .int Text_wordPlace]))] sz) := by
  refine Met.ofW (cc := cX9_wordLength) (maxL := 1) (ret := (some .int)) (by decide) rfl ?_
  intro p e s m args below meth c s₁ B hml hv
  obtain ⟨hargs, hsz, hP, hK, hD0⟩ := hv
  have hx := B.exec
  have hb := B.bytes
  have hr := B.returns
  have hts := atoms_spec (ws := wsX9_wordLength) B.pre
  have hown : s.vm.findClass RX9 = some m.cls := findClass_of_methodNamed B.named
  have hlocks := B.notSynchronized
  subst hsz
  have hD := hD0.self (sz := s.heap.size)
  generalize hAe : va_A [(aText, .inr (8, [.ref aText_codes, .int Text_length, .int Text_wordStart, .int Text_wordEnd, .int Text_wordPlace]))] s.heap.size = A at hD ⊢
  have hA : ∀ q : Nat, s.heap.size ≤ q → A q := fun q h => by rw [← hAe]; exact Or.inr h
  have hS : va_S A s.heap s.heap [] := va_S.rf
  have hl := lv_entry ([.ref aText]) (n := 1) (Nat.le_of_ble_eq_true rfl)
  have hfr : entryFrame m args 1 = entryFrame m ([.ref aText] : List Value).toArray 1 := by rw [hargs]
  rw [hfr, lg_entry_eq]
  generalize (lg_sl ([.ref aText]) ++ List.replicate (1 - (lg_sl ([.ref aText])).length) Slot.unset).toArray = ls at hl ⊢
  have hl : lv_has ls 1 [(0, .ref aText)] := hl
  refine nameQ_ (fun Q hQ => ?_)
  unfold fnX9_wordLength at h
  refine lv_aload_n hx hb dX9_wordLength_0 rfl (lv_at hl 0 rfl) ?_
  refine va_get (D := (dC, dI)) (ci := 8) (v := .int Text_wordEnd) (C := RX9) (T := TX9) (N := 5) hx hb hts (fun w h => List.mem_cons_of_mem _ (inX9 w h)) hown hK hP 0 rfl rfl 3 (by decide) (hts _ (List.mem_cons_of_mem _ mw_65)) (fun _ h9 => h9) rfl dX9_wordLength_1 ?_
  refine lv_aload_n hx hb dX9_wordLength_4 rfl (lv_at hl 0 rfl) ?_
  refine va_get (D := (dC, dI)) (ci := 8) (v := .int Text_wordStart) (C := RX9) (T := TX9) (N := 5) hx hb hts (fun w h => List.mem_cons_of_mem _ (inX9 w h)) hown hK hP 0 rfl rfl 2 (by decide) (hts _ (List.mem_cons_of_mem _ mw_69)) (fun _ h9 => h9) rfl dX9_wordLength_5 ?_
  refine lv_isub hx hb dX9_wordLength_8 ?_
  cases h
  rw [hQ]
  exact W.iret hx hb hr (fun t ht hW => ⟨⟨_, (), rfl, rfl, by rw [ht]; exact hP, va_K.moved hW.alike hK, hD⟩, hS.F ht⟩) hS.2.2 dX9_wordLength_9
abbrev rmX9_numberValue : Room := { frames := 2, cells := 0, slots := 0, locals := 41 }
set_option maxHeartbeats 4000000 in
set_option maxRecDepth 100000 in
theorem ctX9_numberValue (l : Launch) (dC : Nat → ClassId) (dI : Nat → Nat → Nat) (cI cC cJ : ClassId) (aText aText_codes : Nat) (sz : Nat) (Text_codes : Nat → Int32) (Text_length : Int32) (Text_wordStart : Int32) (Text_wordEnd : Int32) (Text_wordPlace : Int32)  (rr : Int32)  (h : fnX9_numberValue Text_codes Text_length Text_wordStart Text_wordEnd  = some rr) : Met l yX9_numberValue wsX9_numberValue rmX9_numberValue (va_Pc [.ref aText] (fun U => U.heap.size = sz ∧ va_P (dC, dI) vwCl [(aText, .inr (8, [.ref aText_codes, .int Text_length, .int Text_wordStart, .int Text_wordEnd, .int Text_wordPlace])), (aText_codes, .inl (cC, 300, .inl Text_codes))] U.heap ∧ va_K (dC, dI) vwCl [(cI, .int), (cC, .char), (cJ, .long)] U ∧ va_D (fun _ => True) [(aText, .inr (8, [.ref aText_codes, .int Text_length, .int Text_wordStart, .int Text_wordEnd, .int Text_wordPlace])), (aText_codes, .inl (cC, 300, .inl Text_codes))])) (va_Qi (fun r (_ : Unit) => r = rr) (fun _ t => va_P (dC, dI) vwCl [(aText, .inr (8, [.ref aText_codes, .int Text_length, .int Text_wordStart, .int Text_wordEnd, .int Text_wordPlace])), (aText_codes, .inl (cC, 300, .inl Text_codes))] t.heap ∧ va_K (dC, dI) vwCl [(cI, .int), (cC, .char), (cJ, .long)] t ∧ va_D (va_A [(aText, .inr (8, [.ref aText_codes, .int Text_length, .int Text_wordStart, .int Text_wordEnd, .int Text_wordPlace])), (aText_codes, .inl (cC, 300, .inl Text_codes))] sz) [(aText, .inr (8, [.ref aText_codes, .int Text_length, .int Text_wordStart, .int Text_wordEnd, .int Text_wordPlace])), (aText_codes, .inl (cC, 300, .inl Text_codes))]) (va_A [(aText, .inr (8, [.ref aText_codes, .int Text_length, .int Text_wordStart, .int Text_wordEnd, .int Text_wordPlace])), (aText_codes, .inl (cC, 300, .inl Text_codes))] sz)) 0 0 (va_A [(aText, .inr (8, [.ref aText_codes, .int Text_length, .int Text_wordStart, .int Text_wordEnd, .int Text_wordPlace])), (aText_codes, .inl (cC, 300, .inl Text_codes))] sz) := by
  refine Met.ofW (cc := cX9_numberValue) (maxL := 4) (ret := (some .int)) (by decide) rfl ?_
  intro p e s m args below meth c s₁ B hml hv
  obtain ⟨hargs, hsz, hP, hK, hD0⟩ := hv
  have hx := B.exec
  have hb := B.bytes
  have hr := B.returns
  have hts := atoms_spec (ws := wsX9_numberValue) B.pre
  have hown : s.vm.findClass RX9 = some m.cls := findClass_of_methodNamed B.named
  have hlocks := B.notSynchronized
  subst hsz
  have hD := hD0.self (sz := s.heap.size)
  generalize hAe : va_A [(aText, .inr (8, [.ref aText_codes, .int Text_length, .int Text_wordStart, .int Text_wordEnd, .int Text_wordPlace])), (aText_codes, .inl (cC, 300, .inl Text_codes))] s.heap.size = A at hD ⊢
  have hA : ∀ q : Nat, s.heap.size ≤ q → A q := fun q h => by rw [← hAe]; exact Or.inr h
  have hS : va_S A s.heap s.heap [] := va_S.rf
  have hl := lv_entry ([.ref aText]) (n := 4) (Nat.le_of_ble_eq_true rfl)
  have hfr : entryFrame m args 4 = entryFrame m ([.ref aText] : List Value).toArray 4 := by rw [hargs]
  rw [hfr, lg_entry_eq]
  generalize (lg_sl ([.ref aText]) ++ List.replicate (4 - (lg_sl ([.ref aText])).length) Slot.unset).toArray = ls at hl ⊢
  have hl : lv_has ls 4 [(0, .ref aText)] := hl
  refine nameQ_ (fun Q hQ => ?_)
  have hP : va_P (dC, dI) vwCl [(aText, .inr (8, [.ref aText_codes, .int Text_length, .int Text_wordStart, .int Text_wordEnd, .int Text_wordPlace])), (aText_codes, .inl (cC, 300, .inl Text_codes))] s.heap := hP
  have hj_9 : ∀ (n : Nat), ∀ (x1 : Int32) (x2 : Int32) (x3 : Int32) (H : Heap) (locs : List Loc) (ls : Array Slot), fnX9_numberValue_9 Text_codes Text_length Text_wordStart Text_wordEnd n x1 x2 x3 = some rr → va_P (dC, dI) vwCl [(aText, .inr (8, [.ref aText_codes, .int Text_length, .int Text_wordStart, .int Text_wordEnd, .int Text_wordPlace])), (aText_codes, .inl (cC, 300, .inl Text_codes))] H → va_D A [(aText, .inr (8, [.ref aText_codes, .int Text_length, .int Text_wordStart, .int Text_wordEnd, .int Text_wordPlace])), (aText_codes, .inl (cC, 300, .inl Text_codes))] → va_S A s.heap H locs → lv_has ls 4 [(1, .int x1), (2, .int x2), (3, .int x3), (0, .ref aText)] → W p l e rmX9_numberValue s m args below meth c H locs 0 0 Q (F0 m 9 ls []) := by
    intro n
    induction n with
    | zero =>
      intro x1 x2 x3 H locs ls h
      cases h
    | succ n ih =>
      intro x1 x2 x3 H locs ls h hP hD hS hl
      rw [fnX9_numberValue_9] at h
      refine lv_iload_n hx hb dX9_numberValue_9 rfl (lv_at hl 2 rfl) ?_
      refine lv_aload_n hx hb dX9_numberValue_10 rfl (lv_at hl 3 rfl) ?_
      refine va_get (D := (dC, dI)) (ci := 8) (v := .int Text_wordEnd) (C := RX9) (T := TX9) (N := 5) hx hb hts (fun w h => List.mem_cons_of_mem _ (inX9 w h)) hown hK hP 0 rfl rfl 3 (by decide) (hts _ (List.mem_cons_of_mem _ mw_65)) (fun _ h9 => h9) rfl dX9_numberValue_11 ?_
      refine lv_icmp_ge (tgt := 37) hx hb dX9_numberValue_14 (by decide) (fun c_1 => ?_) (fun c_1 => ?_)
      · have h := it_t c_1 h
        refine lv_iload_n hx hb dX9_numberValue_37 rfl (lv_at hl 0 rfl) ?_
        refine lv_aload_n hx hb dX9_numberValue_38 rfl (lv_at hl 3 rfl) ?_
        refine va_get (D := (dC, dI)) (ci := 8) (v := .int Text_wordStart) (C := RX9) (T := TX9) (N := 5) hx hb hts (fun w h => List.mem_cons_of_mem _ (inX9 w h)) hown hK hP 0 rfl rfl 2 (by decide) (hts _ (List.mem_cons_of_mem _ mw_69)) (fun _ h9 => h9) rfl dX9_numberValue_39 ?_
        refine lv_icmp_le (tgt := 50) hx hb dX9_numberValue_42 (by decide) (fun c_2 => ?_) (fun c_2 => ?_)
        · have h := it_t c_2 h
          refine lv_iload_n hx hb dX9_numberValue_50 rfl (lv_at hl 1 rfl) ?_
          cases h
          rw [hQ]
          exact W.iret hx hb hr (fun t ht hW => ⟨⟨_, (), rfl, rfl, by rw [ht]; exact hP, va_K.moved hW.alike hK, hD⟩, hS.F ht⟩) hS.2.2 dX9_numberValue_51
        · have h := it_f c_2 h
          refine lv_iload_n hx hb dX9_numberValue_45 rfl (lv_at hl 1 rfl) ?_
          refine lv_ineg hx hb dX9_numberValue_46 ?_
          refine lv_goto (tgt := 51) hx hb dX9_numberValue_47 (by decide) ?_
          cases h
          rw [hQ]
          exact W.iret hx hb hr (fun t ht hW => ⟨⟨_, (), rfl, rfl, by rw [ht]; exact hP, va_K.moved hW.alike hK, hD⟩, hS.F ht⟩) hS.2.2 dX9_numberValue_51
      · have h := it_f c_1 h
        refine lv_iload_n hx hb dX9_numberValue_17 rfl (lv_at hl 1 rfl) ?_
        refine lv_bipush (v := (10 : Int32)) hx hb dX9_numberValue_18 (by decide) ?_
        refine lv_imul hx hb dX9_numberValue_20 ?_
        refine lv_aload_n hx hb dX9_numberValue_21 rfl (lv_at hl 3 rfl) ?_
        refine lv_iload_n hx hb dX9_numberValue_22 rfl (lv_at hl 2 rfl) ?_
        obtain ⟨r_3, hc_3, h⟩ := bd1_some h
        have hPc := hP.sub (ws' := [(aText, .inr (8, [.ref aText_codes, .int Text_length, .int Text_wordStart, .int Text_wordEnd, .int Text_wordPlace])), (aText_codes, .inl (cC, 300, .inl Text_codes))]) [0, 1] rfl
        have hDc := hD.sub (ws' := [(aText, .inr (8, [.ref aText_codes, .int Text_length, .int Text_wordStart, .int Text_wordEnd, .int Text_wordPlace])), (aText_codes, .inl (cC, 300, .inl Text_codes))]) [0, 1] (by decide) rfl
        have hFc := va_free (wc := [(aText, .inr (8, [.ref aText_codes, .int Text_length, .int Text_wordStart, .int Text_wordEnd, .int Text_wordPlace])), (aText_codes, .inl (cC, 300, .inl Text_codes))]) hD hS hA [0, 1] rfl
        refine va_calli (va_runV (As := [.int x3]) (rest := [.int (x2 * (10 : Int32))]) ⟨hx, hb, hml, hown, hts⟩ (ctX9_charAt l dC dI cI cC cJ aText aText_codes _ Text_codes Text_length Text_wordStart Text_wordEnd Text_wordPlace x3 r_3 hc_3) (cwV 1 hts (gV_ hc_ mw_70 mw_71 mw_72 mw_73 mw_74) rfl rfl rfl (by decide +kernel) ⟨Nat.le_of_ble_eq_true rfl, Nat.le_of_ble_eq_true rfl⟩) ⟨fun a U g mk q => by obtain ⟨q0, q1, qP, qK, qD⟩ := q; exact ⟨q0, q1, qP, va_K.moved (u := U) (U := U.calling g mk a) (Vm.Alike.refl U.vm) qK, qD⟩, va_recv hK hPc (ci := 8) (q0 := 0) rfl rfl, fun U hU hW => ⟨rfl, by rw [hU], by rw [hU]; exact hPc, va_K.moved hW.alike hK, hDc.weaken (fun _ _ _ _ => trivial)⟩⟩ rfl rfl hl.1 rfl (lv_room (Nat.le_of_ble_eq_true rfl)) dX9_numberValue_23 ⟨Nat.zero_le _, Nat.zero_le _⟩) hS (fun q _ h => hFc q h) hFc (fun r_3 u t H1 locs ht hvm hw hB hz1 hk1 hS => ?_)
        obtain ⟨hP1, hK1, hD1⟩ := hB
        rw [ht] at hP1
        subst hw
        obtain ⟨hP, hD⟩ := va_join (wr := []) (w1 := [(aText, .inr (8, [.ref aText_codes, .int Text_length, .int Text_wordStart, .int Text_wordEnd, .int Text_wordPlace])), (aText_codes, .inl (cC, 300, .inl Text_codes))]) hP hD [0, 1] [] rfl rfl (by decide) (by decide) hk1 hFc hP1 hD1
        generalize H1 = H at hP hS ⊢
        have hP : va_P (dC, dI) vwCl [(aText, .inr (8, [.ref aText_codes, .int Text_length, .int Text_wordStart, .int Text_wordEnd, .int Text_wordPlace])), (aText_codes, .inl (cC, 300, .inl Text_codes))] H := hP
        have hD : va_D A [(aText, .inr (8, [.ref aText_codes, .int Text_length, .int Text_wordStart, .int Text_wordEnd, .int Text_wordPlace])), (aText_codes, .inl (cC, 300, .inl Text_codes))] := hD
        refine lv_bipush (v := (48 : Int32)) hx hb dX9_numberValue_26 (by decide) ?_
        refine lv_isub hx hb dX9_numberValue_28 ?_
        refine lv_iadd hx hb dX9_numberValue_29 ?_
        refine lv_istore_n (lv' := [(2, .int ((x2 * (10 : Int32)) + (r_3 - (48 : Int32)))), (1, .int x1), (3, .int x3), (0, .ref aText)]) hx hb dX9_numberValue_30 rfl hl (by decide) rfl (fun ls hl => ?_)
        refine lv_iinc (v := x3 + (1 : Int32)) (lv' := [(3, .int (x3 + (1 : Int32))), (2, .int ((x2 * (10 : Int32)) + (r_3 - (48 : Int32)))), (1, .int x1), (0, .ref aText)]) hx hb dX9_numberValue_31 hl (k := 2) rfl rfl (by decide) rfl (fun ls hl => ?_)
        refine lv_goto (tgt := 9) hx hb dX9_numberValue_34 (by decide) ?_
        exact ih x1 ((x2 * (10 : Int32)) + (r_3 - (48 : Int32))) (x3 + (1 : Int32)) _ _ _ h hP hD hS (lv_sub hl [2, 1, 0, 3] rfl)
  unfold fnX9_numberValue at h
  refine lv_aload_n hx hb dX9_numberValue_0 rfl (lv_at hl 0 rfl) ?_
  obtain ⟨r_4, hc_4, h⟩ := bd1_some h
  have hPc := hP.sub (ws' := [(aText, .inr (8, [.ref aText_codes, .int Text_length, .int Text_wordStart, .int Text_wordEnd, .int Text_wordPlace])), (aText_codes, .inl (cC, 300, .inl Text_codes))]) [0, 1] rfl
  have hDc := hD.sub (ws' := [(aText, .inr (8, [.ref aText_codes, .int Text_length, .int Text_wordStart, .int Text_wordEnd, .int Text_wordPlace])), (aText_codes, .inl (cC, 300, .inl Text_codes))]) [0, 1] (by decide) rfl
  have hFc := va_free (wc := [(aText, .inr (8, [.ref aText_codes, .int Text_length, .int Text_wordStart, .int Text_wordEnd, .int Text_wordPlace])), (aText_codes, .inl (cC, 300, .inl Text_codes))]) hD hS hA [0, 1] rfl
  refine va_calli (va_runV (As := []) (rest := []) ⟨hx, hb, hml, hown, hts⟩ (ctX9_firstDigit l dC dI cI cC cJ aText aText_codes _ Text_codes Text_length Text_wordStart Text_wordEnd Text_wordPlace r_4 hc_4) (cwV 0 hts (gV_ hc_ mw_75 mw_76 mw_77 mw_73 mw_78) rfl rfl rfl (by decide +kernel) ⟨Nat.le_of_ble_eq_true rfl, Nat.le_of_ble_eq_true rfl⟩) ⟨fun a U g mk q => by obtain ⟨q0, q1, qP, qK, qD⟩ := q; exact ⟨q0, q1, qP, va_K.moved (u := U) (U := U.calling g mk a) (Vm.Alike.refl U.vm) qK, qD⟩, va_recv hK hPc (ci := 8) (q0 := 0) rfl rfl, fun U hU hW => ⟨rfl, by rw [hU], by rw [hU]; exact hPc, va_K.moved hW.alike hK, hDc.weaken (fun _ _ _ _ => trivial)⟩⟩ rfl rfl hl.1 rfl (lv_room (Nat.le_of_ble_eq_true rfl)) dX9_numberValue_1 ⟨Nat.zero_le _, Nat.zero_le _⟩) hS (fun q _ h => hFc q h) hFc (fun r_4 u t H1 locs ht hvm hw hB hz1 hk1 hS => ?_)
  obtain ⟨hP1, hK1, hD1⟩ := hB
  rw [ht] at hP1
  subst hw
  obtain ⟨hP, hD⟩ := va_join (wr := []) (w1 := [(aText, .inr (8, [.ref aText_codes, .int Text_length, .int Text_wordStart, .int Text_wordEnd, .int Text_wordPlace])), (aText_codes, .inl (cC, 300, .inl Text_codes))]) hP hD [0, 1] [] rfl rfl (by decide) (by decide) hk1 hFc hP1 hD1
  generalize H1 = H at hP hS ⊢
  have hP : va_P (dC, dI) vwCl [(aText, .inr (8, [.ref aText_codes, .int Text_length, .int Text_wordStart, .int Text_wordEnd, .int Text_wordPlace])), (aText_codes, .inl (cC, 300, .inl Text_codes))] H := hP
  have hD : va_D A [(aText, .inr (8, [.ref aText_codes, .int Text_length, .int Text_wordStart, .int Text_wordEnd, .int Text_wordPlace])), (aText_codes, .inl (cC, 300, .inl Text_codes))] := hD
  refine lv_istore_n (lv' := [(1, .int r_4), (0, .ref aText)]) hx hb dX9_numberValue_4 rfl hl (by decide) rfl (fun ls hl => ?_)
  refine lv_iconst (v := (0 : Int32)) hx hb dX9_numberValue_5 (by decide) ?_
  refine lv_istore_n (lv' := [(2, .int (0 : Int32)), (1, .int r_4), (0, .ref aText)]) hx hb dX9_numberValue_6 rfl hl (by decide) rfl (fun ls hl => ?_)
  refine lv_iload_n hx hb dX9_numberValue_7 rfl (lv_at hl 1 rfl) ?_
  refine lv_istore_n (lv' := [(3, .int r_4), (2, .int (0 : Int32)), (1, .int r_4), (0, .ref aText)]) hx hb dX9_numberValue_8 rfl hl (by decide) rfl (fun ls hl => ?_)
  exact hj_9 fuel_ r_4 (0 : Int32) r_4 _ _ _ h hP hD hS (lv_sub hl [2, 1, 0, 3] rfl)
abbrev rmX9_wordPlace : Room := { frames := 0, cells := 0, slots := 0, locals := 0 }
set_option maxHeartbeats 4000000 in
set_option maxRecDepth 100000 in
theorem ctX9_wordPlace (l : Launch) (dC : Nat → ClassId) (dI : Nat → Nat → Nat) (cI cC cJ : ClassId) (aText aText_codes : Nat) (sz : Nat) (Text_length : Int32) (Text_wordStart : Int32) (Text_wordEnd : Int32) (Text_wordPlace : Int32)  (rr : Int32)  (h : fnX9_wordPlace Text_wordPlace  = some rr) : Met l yX9_wordPlace wsX9_wordPlace rmX9_wordPlace (va_Pc [.ref aText] (fun U => U.heap.size = sz ∧ va_P (dC, dI) vwCl [(aText, .inr (8, [.ref aText_codes, .int Text_length, .int Text_wordStart, .int Text_wordEnd, .int Text_wordPlace]))] U.heap ∧ va_K (dC, dI) vwCl [(cI, .int), (cC, .char), (cJ, .long)] U ∧ va_D (fun _ => True) [(aText, .inr (8, [.ref aText_codes, .int Text_length, .int Text_wordStart, .int Text_wordEnd, .int Text_wordPlace]))])) (va_Qi (fun r (_ : Unit) => r = rr) (fun _ t => va_P (dC, dI) vwCl [(aText, .inr (8, [.ref aText_codes, .int Text_length, .int Text_wordStart, .int Text_wordEnd, .int Text_wordPlace]))] t.heap ∧ va_K (dC, dI) vwCl [(cI, .int), (cC, .char), (cJ, .long)] t ∧ va_D (va_A [(aText, .inr (8, [.ref aText_codes, .int Text_length, .int Text_wordStart, .int Text_wordEnd, .int Text_wordPlace]))] sz) [(aText, .inr (8, [.ref aText_codes, .int Text_length, .int Text_wordStart, .int Text_wordEnd, .int Text_wordPlace]))]) (va_A [(aText, .inr (8, [.ref aText_codes, .int Text_length, .int Text_wordStart, .int Text_wordEnd, .int Text_wordPlace]))] sz)) 0 0 (va_A [(aText, .inr (8, [.ref aText_codes, .int Text_length, .int Text_wordStart, .int Text_wordEnd, .int Text_wordPlace]))] sz) := by
  refine Met.ofW (cc := cX9_wordPlace) (maxL := 1) (ret := (some .int)) (by decide) rfl ?_
  intro p e s m args below meth c s₁ B hml hv
  obtain ⟨hargs, hsz, hP, hK, hD0⟩ := hv
  have hx := B.exec
  have hb := B.bytes
  have hr := B.returns
  have hts := atoms_spec (ws := wsX9_wordPlace) B.pre
  have hown : s.vm.findClass RX9 = some m.cls := findClass_of_methodNamed B.named
  have hlocks := B.notSynchronized
  subst hsz
  have hD := hD0.self (sz := s.heap.size)
  generalize hAe : va_A [(aText, .inr (8, [.ref aText_codes, .int Text_length, .int Text_wordStart, .int Text_wordEnd, .int Text_wordPlace]))] s.heap.size = A at hD ⊢
  have hA : ∀ q : Nat, s.heap.size ≤ q → A q := fun q h => by rw [← hAe]; exact Or.inr h
  have hS : va_S A s.heap s.heap [] := va_S.rf
  have hl := lv_entry ([.ref aText]) (n := 1) (Nat.le_of_ble_eq_true rfl)
  have hfr : entryFrame m args 1 = entryFrame m ([.ref aText] : List Value).toArray 1 := by rw [hargs]
  rw [hfr, lg_entry_eq]
  generalize (lg_sl ([.ref aText]) ++ List.replicate (1 - (lg_sl ([.ref aText])).length) Slot.unset).toArray = ls at hl ⊢
  have hl : lv_has ls 1 [(0, .ref aText)] := hl
  refine nameQ_ (fun Q hQ => ?_)
  unfold fnX9_wordPlace at h
  refine lv_aload_n hx hb dX9_wordPlace_0 rfl (lv_at hl 0 rfl) ?_
  refine va_get (D := (dC, dI)) (ci := 8) (v := .int Text_wordPlace) (C := RX9) (T := TX9) (N := 5) hx hb hts (fun w h => List.mem_cons_of_mem _ (inX9 w h)) hown hK hP 0 rfl rfl 4 (by decide) (hts _ (List.mem_cons_of_mem _ mw_66)) (fun _ h9 => h9) rfl dX9_wordPlace_1 ?_
  cases h
  rw [hQ]
  exact W.iret hx hb hr (fun t ht hW => ⟨⟨_, (), rfl, rfl, by rw [ht]; exact hP, va_K.moved hW.alike hK, hD⟩, hS.F ht⟩) hS.2.2 dX9_wordPlace_4
abbrev rmX9_erase : Room := { frames := 0, cells := 0, slots := 0, locals := 0 }
set_option maxHeartbeats 4000000 in
set_option maxRecDepth 100000 in
theorem ctX9_erase (l : Launch) (dC : Nat → ClassId) (dI : Nat → Nat → Nat) (cI cC cJ : ClassId) (aText aText_codes : Nat) (sz : Nat) (Text_length : Int32) (Text_wordStart : Int32) (Text_wordEnd : Int32) (Text_wordPlace : Int32)  (w_Text_length : Int32) (h : fnX9_erase Text_length  = some w_Text_length) : Met l yX9_erase wsX9_erase rmX9_erase (va_Pc [.ref aText] (fun U => U.heap.size = sz ∧ va_P (dC, dI) vwCl [(aText, .inr (8, [.ref aText_codes, .int Text_length, .int Text_wordStart, .int Text_wordEnd, .int Text_wordPlace]))] U.heap ∧ va_K (dC, dI) vwCl [(cI, .int), (cC, .char), (cJ, .long)] U ∧ va_D (fun _ => True) [(aText, .inr (8, [.ref aText_codes, .int Text_length, .int Text_wordStart, .int Text_wordEnd, .int Text_wordPlace]))])) (va_Qv (fun (_ : Unit) => True) (fun _ t => va_P (dC, dI) vwCl [(aText, .inr (8, [.ref aText_codes, .int w_Text_length, .int Text_wordStart, .int Text_wordEnd, .int Text_wordPlace]))] t.heap ∧ va_K (dC, dI) vwCl [(cI, .int), (cC, .char), (cJ, .long)] t ∧ va_D (va_A [(aText, .inr (8, [.ref aText_codes, .int Text_length, .int Text_wordStart, .int Text_wordEnd, .int Text_wordPlace]))] sz) [(aText, .inr (8, [.ref aText_codes, .int w_Text_length, .int Text_wordStart, .int Text_wordEnd, .int Text_wordPlace]))]) (va_A [(aText, .inr (8, [.ref aText_codes, .int Text_length, .int Text_wordStart, .int Text_wordEnd, .int Text_wordPlace]))] sz)) 0 0 (va_A [(aText, .inr (8, [.ref aText_codes, .int Text_length, .int Text_wordStart, .int Text_wordEnd, .int Text_wordPlace]))] sz) := by
  refine Met.ofW (cc := cX9_erase) (maxL := 1) (ret := none) (by decide) rfl ?_
  intro p e s m args below meth c s₁ B hml hv
  obtain ⟨hargs, hsz, hP, hK, hD0⟩ := hv
  have hx := B.exec
  have hb := B.bytes
  have hr := B.returns
  have hts := atoms_spec (ws := wsX9_erase) B.pre
  have hown : s.vm.findClass RX9 = some m.cls := findClass_of_methodNamed B.named
  have hlocks := B.notSynchronized
  subst hsz
  have hD := hD0.self (sz := s.heap.size)
  generalize hAe : va_A [(aText, .inr (8, [.ref aText_codes, .int Text_length, .int Text_wordStart, .int Text_wordEnd, .int Text_wordPlace]))] s.heap.size = A at hD ⊢
  have hA : ∀ q : Nat, s.heap.size ≤ q → A q := fun q h => by rw [← hAe]; exact Or.inr h
  have hS : va_S A s.heap s.heap [] := va_S.rf
  have hl := lv_entry ([.ref aText]) (n := 1) (Nat.le_of_ble_eq_true rfl)
  have hfr : entryFrame m args 1 = entryFrame m ([.ref aText] : List Value).toArray 1 := by rw [hargs]
  rw [hfr, lg_entry_eq]
  generalize (lg_sl ([.ref aText]) ++ List.replicate (1 - (lg_sl ([.ref aText])).length) Slot.unset).toArray = ls at hl ⊢
  have hl : lv_has ls 1 [(0, .ref aText)] := hl
  refine nameQ_ (fun Q hQ => ?_)
  unfold fnX9_erase at h
  refine lv_aload_n hx hb dX9_erase_0 rfl (lv_at hl 0 rfl) ?_
  refine lv_iconst (v := (0 : Int32)) hx hb dX9_erase_1 (by decide) ?_
  refine va_put (D := (dC, dI)) (ci := 8) (v := .int (0 : Int32)) (ty := .int) (C := RX9) (T := TX9) (N := 5) hx hb hts (fun w h => List.mem_cons_of_mem _ (inX9 w h)) tyX9 tyX9_ok nmX9 hown hK hP hD hS 0 rfl rfl 1 (by decide) (hts _ (List.mem_cons_of_mem _ mw_67)) (fun _ h9 => h9) rfl (by decide +kernel) rfl rfl (Nat.le_of_ble_eq_true rfl) dX9_erase_2 (fun H locs hP hD hS => ?_)
  have hP : va_P (dC, dI) vwCl [(aText, .inr (8, [.ref aText_codes, .int (0 : Int32), .int Text_wordStart, .int Text_wordEnd, .int Text_wordPlace]))] H := hP
  have hD : va_D A [(aText, .inr (8, [.ref aText_codes, .int (0 : Int32), .int Text_wordStart, .int Text_wordEnd, .int Text_wordPlace]))] := hD
  cases h
  rw [hQ]
  exact W.vret hx hb hr (fun t ht hW => ⟨⟨(), rfl, trivial, by rw [ht]; exact hP, va_K.moved hW.alike hK, hD⟩, hS.F ht⟩) hS.2.2 dX9_erase_5
abbrev rmX9_codeOf : Room := { frames := 0, cells := 0, slots := 0, locals := 0 }
set_option maxHeartbeats 4000000 in
set_option maxRecDepth 100000 in
theorem ctX9_codeOf (l : Launch) (dC : Nat → ClassId) (dI : Nat → Nat → Nat) (cI cC cJ : ClassId) (sz : Nat)  (p0 : Int32) (p1 : Int32) (rr : Int32)  (h : fnX9_codeOf  p0 p1 = some rr) : Met l yX9_codeOf wsX9_codeOf rmX9_codeOf (va_Pc [.int p0, .int p1] (fun U => U.heap.size = sz ∧ va_P (dC, dI) vwCl [] U.heap ∧ va_K (dC, dI) vwCl [(cI, .int), (cC, .char), (cJ, .long)] U ∧ va_D (fun _ => True) [])) (va_Qi (fun r (_ : Unit) => r = rr) (fun _ t => va_P (dC, dI) vwCl [] t.heap ∧ va_K (dC, dI) vwCl [(cI, .int), (cC, .char), (cJ, .long)] t ∧ va_D (va_A [] sz) []) (va_A [] sz)) 0 0 (va_A [] sz) := by
  refine Met.ofW (cc := cX9_codeOf) (maxL := 2) (ret := (some .int)) (by decide) rfl ?_
  intro p e s m args below meth c s₁ B hml hv
  obtain ⟨hargs, hsz, hP, hK, hD0⟩ := hv
  have hx := B.exec
  have hb := B.bytes
  have hr := B.returns
  have hts := atoms_spec (ws := wsX9_codeOf) B.pre
  have hown : s.vm.findClass RX9 = some m.cls := findClass_of_methodNamed B.named
  have hlocks := B.notSynchronized
  subst hsz
  have hD := hD0.self (sz := s.heap.size)
  generalize hAe : va_A [] s.heap.size = A at hD ⊢
  have hA : ∀ q : Nat, s.heap.size ≤ q → A q := fun q h => by rw [← hAe]; exact Or.inr h
  have hS : va_S A s.heap s.heap [] := va_S.rf
  have hl := lv_entry ([.int p0, .int p1]) (n := 2) (Nat.le_of_ble_eq_true rfl)
  have hfr : entryFrame m args 2 = entryFrame m ([.int p0, .int p1] : List Value).toArray 2 := by rw [hargs]
  rw [hfr, lg_entry_eq]
  generalize (lg_sl ([.int p0, .int p1]) ++ List.replicate (2 - (lg_sl ([.int p0, .int p1])).length) Slot.unset).toArray = ls at hl ⊢
  have hl : lv_has ls 2 [(0, .int p0), (1, .int p1)] := hl
  refine nameQ_ (fun Q hQ => ?_)
  unfold fnX9_codeOf at h
  refine lv_iload_n hx hb dX9_codeOf_0 rfl (lv_at hl 0 rfl) ?_
  refine lv_bipush (v := (8 : Int32)) hx hb dX9_codeOf_1 (by decide) ?_
  refine lv_iload_n hx hb dX9_codeOf_3 rfl (lv_at hl 1 rfl) ?_
  refine lv_imul hx hb dX9_codeOf_4 ?_
  refine lv_ishr hx hb dX9_codeOf_5 ?_
  refine lv_sipush (v := (255 : Int32)) hx hb dX9_codeOf_6 (by decide) ?_
  refine lv_iand hx hb dX9_codeOf_9 ?_
  cases h
  rw [hQ]
  exact W.iret hx hb hr (fun t ht hW => ⟨⟨_, (), rfl, rfl, by rw [ht]; exact hP, va_K.moved hW.alike hK, hD⟩, hS.F ht⟩) hS.2.2 dX9_codeOf_10
abbrev rmX9_append : Room := { frames := 1, cells := 0, slots := 0, locals := 21 }
set_option maxHeartbeats 4000000 in
set_option maxRecDepth 100000 in
theorem ctX9_append (l : Launch) (dC : Nat → ClassId) (dI : Nat → Nat → Nat) (cI cC cJ : ClassId) (aText aText_codes : Nat) (sz : Nat) (Text_codes : Nat → Int32) (Text_length : Int32) (Text_wordStart : Int32) (Text_wordEnd : Int32) (Text_wordPlace : Int32) (p0 : Int32) (rr : Int32) (w_Text_codes : Nat → Int32) (w_Text_length : Int32) (h : fnX9_append Text_codes Text_length p0 = some (rr, w_Text_codes, w_Text_length)) : Met l yX9_append wsX9_append rmX9_append (va_Pc [.ref aText, .int p0] (fun U => U.heap.size = sz ∧ va_P (dC, dI) vwCl [(aText, .inr (8, [.ref aText_codes, .int Text_length, .int Text_wordStart, .int Text_wordEnd, .int Text_wordPlace])), (aText_codes, .inl (cC, 300, .inl Text_codes))] U.heap ∧ va_K (dC, dI) vwCl [(cI, .int), (cC, .char), (cJ, .long)] U ∧ va_D (fun _ => True) [(aText, .inr (8, [.ref aText_codes, .int Text_length, .int Text_wordStart, .int Text_wordEnd, .int Text_wordPlace])), (aText_codes, .inl (cC, 300, .inl Text_codes))])) (va_Qi (fun r (_ : Unit) => r = rr) (fun _ t => va_P (dC, dI) vwCl [(aText, .inr (8, [.ref aText_codes, .int w_Text_length, .int Text_wordStart, .int Text_wordEnd, .int Text_wordPlace])), (aText_codes, .inl (cC, 300, .inl w_Text_codes))] t.heap ∧ va_K (dC, dI) vwCl [(cI, .int), (cC, .char), (cJ, .long)] t ∧ va_D (va_A [(aText, .inr (8, [.ref aText_codes, .int Text_length, .int Text_wordStart, .int Text_wordEnd, .int Text_wordPlace])), (aText_codes, .inl (cC, 300, .inl Text_codes))] sz) [(aText, .inr (8, [.ref aText_codes, .int w_Text_length, .int Text_wordStart, .int Text_wordEnd, .int Text_wordPlace])), (aText_codes, .inl (cC, 300, .inl w_Text_codes))]) (va_A [(aText, .inr (8, [.ref aText_codes, .int Text_length, .int Text_wordStart, .int Text_wordEnd, .int Text_wordPlace])), (aText_codes, .inl (cC, 300, .inl Text_codes))] sz)) 0 0 (va_A [(aText, .inr (8, [.ref aText_codes, .int Text_length, .int Text_wordStart, .int Text_wordEnd, .int Text_wordPlace])), (aText_codes, .inl (cC, 300, .inl Text_codes))] sz) := by
  refine Met.ofW (cc := cX9_append) (maxL := 4) (ret := (some .int)) (by decide) rfl ?_
  intro p e s m args below meth c s₁ B hml hv
  obtain ⟨hargs, hsz, hP, hK, hD0⟩ := hv
  have hx := B.exec
  have hb := B.bytes
  have hr := B.returns
  have hts := atoms_spec (ws := wsX9_append) B.pre
  have hown : s.vm.findClass RX9 = some m.cls := findClass_of_methodNamed B.named
  have hlocks := B.notSynchronized
  subst hsz
  have hD := hD0.self (sz := s.heap.size)
  generalize hAe : va_A [(aText, .inr (8, [.ref aText_codes, .int Text_length, .int Text_wordStart, .int Text_wordEnd, .int Text_wordPlace])), (aText_codes, .inl (cC, 300, .inl Text_codes))] s.heap.size = A at hD ⊢
  have hA : ∀ q : Nat, s.heap.size ≤ q → A q := fun q h => by rw [← hAe]; exact Or.inr h
  have hS : va_S A s.heap s.heap [] := va_S.rf
  have hl := lv_entry ([.ref aText, .int p0]) (n := 4) (Nat.le_of_ble_eq_true rfl)
  have hfr : entryFrame m args 4 = entryFrame m ([.ref aText, .int p0] : List Value).toArray 4 := by rw [hargs]
  rw [hfr, lg_entry_eq]
  generalize (lg_sl ([.ref aText, .int p0]) ++ List.replicate (4 - (lg_sl ([.ref aText, .int p0])).length) Slot.unset).toArray = ls at hl ⊢
  have hl : lv_has ls 4 [(0, .ref aText), (1, .int p0)] := hl
  refine nameQ_ (fun Q hQ => ?_)
  have hP : va_P (dC, dI) vwCl [(aText, .inr (8, [.ref aText_codes, .int Text_length, .int Text_wordStart, .int Text_wordEnd, .int Text_wordPlace])), (aText_codes, .inl (cC, 300, .inl Text_codes))] s.heap := hP
  have hj_68 : ∀ (n : Nat), ∀ (x1 : Int32) (x2 : Int32) (x3 : Int32) (Text_codes : Nat → Int32) (Text_length : Int32) (H : Heap) (locs : List Loc) (ls : Array Slot), fnX9_append_68 n x1 x2 x3 Text_codes Text_length = some (rr, w_Text_codes, w_Text_length) → va_P (dC, dI) vwCl [(aText, .inr (8, [.ref aText_codes, .int Text_length, .int Text_wordStart, .int Text_wordEnd, .int Text_wordPlace])), (aText_codes, .inl (cC, 300, .inl Text_codes))] H → va_D A [(aText, .inr (8, [.ref aText_codes, .int Text_length, .int Text_wordStart, .int Text_wordEnd, .int Text_wordPlace])), (aText_codes, .inl (cC, 300, .inl Text_codes))] → va_S A s.heap H locs → lv_has ls 4 [(1, .int x1), (2, .int x2), (3, .int x3), (0, .ref aText)] → W p l e rmX9_append s m args below meth c H locs 0 0 Q (F0 m 68 ls []) := by
    intro n
    induction n with
    | zero =>
      intro x1 x2 x3 Text_codes Text_length H locs ls h
      cases h
    | succ n ih =>
      intro x1 x2 x3 Text_codes Text_length H locs ls h hP hD hS hl
      rw [fnX9_append_68] at h
      refine lv_iload_n hx hb dX9_append_68 rfl (lv_at hl 2 rfl) ?_
      refine lv_iload_n hx hb dX9_append_69 rfl (lv_at hl 1 rfl) ?_
      refine lv_icmp_ge (tgt := 96) hx hb dX9_append_70 (by decide) (fun c_1 => ?_) (fun c_1 => ?_)
      · have h := it_t c_1 h
        refine lv_aload_n hx hb dX9_append_96 rfl (lv_at hl 3 rfl) ?_
        refine lv_dup hx hb dX9_append_97 rfl ?_
        refine va_get (D := (dC, dI)) (ci := 8) (v := .int Text_length) (C := RX9) (T := TX9) (N := 5) hx hb hts (fun w h => List.mem_cons_of_mem _ (inX9 w h)) hown hK hP 0 rfl rfl 1 (by decide) (hts _ (List.mem_cons_of_mem _ mw_67)) (fun _ h9 => h9) rfl dX9_append_98 ?_
        refine lv_iload_n hx hb dX9_append_101 rfl (lv_at hl 1 rfl) ?_
        refine lv_iadd hx hb dX9_append_102 ?_
        refine va_put (D := (dC, dI)) (ci := 8) (v := .int (Text_length + x2)) (ty := .int) (C := RX9) (T := TX9) (N := 5) hx hb hts (fun w h => List.mem_cons_of_mem _ (inX9 w h)) tyX9 tyX9_ok nmX9 hown hK hP hD hS 0 rfl rfl 1 (by decide) (hts _ (List.mem_cons_of_mem _ mw_67)) (fun _ h9 => h9) rfl (by decide +kernel) rfl rfl (Nat.le_of_ble_eq_true rfl) dX9_append_103 (fun H locs hP hD hS => ?_)
        have hP : va_P (dC, dI) vwCl [(aText, .inr (8, [.ref aText_codes, .int (Text_length + x2), .int Text_wordStart, .int Text_wordEnd, .int Text_wordPlace])), (aText_codes, .inl (cC, 300, .inl Text_codes))] H := hP
        have hD : va_D A [(aText, .inr (8, [.ref aText_codes, .int (Text_length + x2), .int Text_wordStart, .int Text_wordEnd, .int Text_wordPlace])), (aText_codes, .inl (cC, 300, .inl Text_codes))] := hD
        refine lv_iload_n hx hb dX9_append_106 rfl (lv_at hl 1 rfl) ?_
        cases h
        rw [hQ]
        exact W.iret hx hb hr (fun t ht hW => ⟨⟨_, (), rfl, rfl, by rw [ht]; exact hP, va_K.moved hW.alike hK, hD⟩, hS.F ht⟩) hS.2.2 dX9_append_107
      · have h := it_f c_1 h
        refine lv_aload_n hx hb dX9_append_73 rfl (lv_at hl 3 rfl) ?_
        refine va_get (D := (dC, dI)) (ci := 8) (v := .ref aText_codes) (C := RX9) (T := TX9) (N := 5) hx hb hts (fun w h => List.mem_cons_of_mem _ (inX9 w h)) hown hK hP 0 rfl rfl 0 (by decide) (hts _ (List.mem_cons_of_mem _ mw_68)) (fun _ h9 => h9) rfl dX9_append_74 ?_
        refine lv_aload_n hx hb dX9_append_77 rfl (lv_at hl 3 rfl) ?_
        refine va_get (D := (dC, dI)) (ci := 8) (v := .int Text_length) (C := RX9) (T := TX9) (N := 5) hx hb hts (fun w h => List.mem_cons_of_mem _ (inX9 w h)) hown hK hP 0 rfl rfl 1 (by decide) (hts _ (List.mem_cons_of_mem _ mw_67)) (fun _ h9 => h9) rfl dX9_append_78 ?_
        refine lv_iload_n hx hb dX9_append_81 rfl (lv_at hl 2 rfl) ?_
        refine lv_iadd hx hb dX9_append_82 ?_
        refine lv_iload_n hx hb dX9_append_83 rfl (lv_at hl 0 rfl) ?_
        refine lv_iload_n hx hb dX9_append_84 rfl (lv_at hl 2 rfl) ?_
        obtain ⟨r_2, hc_2, h⟩ := bd1_some h
        have hPc := hP.sub (ws' := []) [] rfl
        have hDc := hD.sub (ws' := []) [] (by decide) rfl
        have hFc := va_free (wc := []) hD hS hA [] rfl
        refine va_calli (va_runS (As := [.int x1, .int x3]) (rest := [.int (Text_length + x3), .ref aText_codes]) ⟨hx, hb, hml, hown, hts⟩ (ctX9_codeOf l dC dI cI cC cJ _ x1 x3 r_2 hc_2) (va_cwS 2 hts (gS_ hc_ mw_344 mw_345 mw_73 mw_346) rfl rfl rfl (by decide +kernel) ⟨Nat.le_of_ble_eq_true rfl, Nat.le_of_ble_eq_true rfl⟩) ⟨fun a U g mk q => by obtain ⟨q0, q1, qP, qK, qD⟩ := q; exact ⟨q0, q1, qP, va_K.moved (u := U) (U := U.calling g mk a) (Vm.Alike.refl U.vm) qK, qD⟩, fun U hU hW => ⟨rfl, by rw [hU], by rw [hU]; exact hPc, va_K.moved hW.alike hK, hDc.weaken (fun _ _ _ _ => trivial)⟩⟩ rfl rfl hl.1 rfl (lv_room (Nat.le_of_ble_eq_true rfl)) dX9_append_85 ⟨Nat.zero_le _, Nat.zero_le _⟩) hS (fun q _ h => hFc q h) hFc (fun r_2 u t H1 locs ht hvm hw hB hz1 hk1 hS => ?_)
        obtain ⟨hP1, hK1, hD1⟩ := hB
        rw [ht] at hP1
        subst hw
        obtain ⟨hP, hD⟩ := va_join (wr := [(aText, .inr (8, [.ref aText_codes, .int Text_length, .int Text_wordStart, .int Text_wordEnd, .int Text_wordPlace])), (aText_codes, .inl (cC, 300, .inl Text_codes))]) (w1 := []) hP hD [] [0, 1] rfl rfl (by decide) (by decide) hk1 hFc hP1 hD1
        generalize H1 = H at hP hS ⊢
        have hP : va_P (dC, dI) vwCl [(aText, .inr (8, [.ref aText_codes, .int Text_length, .int Text_wordStart, .int Text_wordEnd, .int Text_wordPlace])), (aText_codes, .inl (cC, 300, .inl Text_codes))] H := hP
        have hD : va_D A [(aText, .inr (8, [.ref aText_codes, .int Text_length, .int Text_wordStart, .int Text_wordEnd, .int Text_wordPlace])), (aText_codes, .inl (cC, 300, .inl Text_codes))] := hD
        refine lv_i2c (v := (r_2.toUInt32 % 65536).toInt32) hx hb dX9_append_88 rfl ?_
        obtain ⟨f_3, hi_4, h⟩ := bd1_some h
        obtain ⟨hi_4, ex_5⟩ := sc_some hi_4
        refine va_cast hx hb hK hP hD hS 1 1 rfl rfl hi_4 dX9_append_89 (fun H locs hP hD hS => ?_)
        rw [← ex_5] at hP hD
        have hP : va_P (dC, dI) vwCl [(aText, .inr (8, [.ref aText_codes, .int Text_length, .int Text_wordStart, .int Text_wordEnd, .int Text_wordPlace])), (aText_codes, .inl (cC, 300, .inl f_3))] H := hP
        have hD : va_D A [(aText, .inr (8, [.ref aText_codes, .int Text_length, .int Text_wordStart, .int Text_wordEnd, .int Text_wordPlace])), (aText_codes, .inl (cC, 300, .inl f_3))] := hD
        refine lv_iinc (v := x3 + (1 : Int32)) (lv' := [(3, .int (x3 + (1 : Int32))), (1, .int x1), (2, .int x2), (0, .ref aText)]) hx hb dX9_append_90 hl (k := 2) rfl rfl (by decide) rfl (fun ls hl => ?_)
        refine lv_goto (tgt := 68) hx hb dX9_append_93 (by decide) ?_
        exact ih x1 x2 (x3 + (1 : Int32)) f_3 Text_length _ _ _ h hP hD hS (lv_sub hl [1, 2, 0, 3] rfl)
  have hj_43 : ∀ (x1 : Int32) (x2 : Int32) (Text_codes : Nat → Int32) (Text_length : Int32) (H : Heap) (locs : List Loc) (ls : Array Slot), fnX9_append_43 x1 x2 Text_codes Text_length = some (rr, w_Text_codes, w_Text_length) → va_P (dC, dI) vwCl [(aText, .inr (8, [.ref aText_codes, .int Text_length, .int Text_wordStart, .int Text_wordEnd, .int Text_wordPlace])), (aText_codes, .inl (cC, 300, .inl Text_codes))] H → va_D A [(aText, .inr (8, [.ref aText_codes, .int Text_length, .int Text_wordStart, .int Text_wordEnd, .int Text_wordPlace])), (aText_codes, .inl (cC, 300, .inl Text_codes))] → va_S A s.heap H locs → lv_has ls 4 [(1, .int x1), (2, .int x2), (0, .ref aText)] → W p l e rmX9_append s m args below meth c H locs 0 0 Q (F0 m 43 ls []) := by
    intro x1 x2 Text_codes Text_length H locs ls h hP hD hS hl
    unfold fnX9_append_43 at h
    refine lv_aload_n hx hb dX9_append_43 rfl (lv_at hl 2 rfl) ?_
    refine va_get (D := (dC, dI)) (ci := 8) (v := .int Text_length) (C := RX9) (T := TX9) (N := 5) hx hb hts (fun w h => List.mem_cons_of_mem _ (inX9 w h)) hown hK hP 0 rfl rfl 1 (by decide) (hts _ (List.mem_cons_of_mem _ mw_67)) (fun _ h9 => h9) rfl dX9_append_44 ?_
    refine lv_if_lt (tgt := 64) hx hb dX9_append_47 (by decide) (fun c_6 => ?_) (fun c_6 => ?_)
    · have h := it_t c_6 h
      refine lv_iconst (v := (-1 : Int32)) hx hb dX9_append_64 (by decide) ?_
      cases h
      rw [hQ]
      exact W.iret hx hb hr (fun t ht hW => ⟨⟨_, (), rfl, rfl, by rw [ht]; exact hP, va_K.moved hW.alike hK, hD⟩, hS.F ht⟩) hS.2.2 dX9_append_65
    · have h := it_f c_6 h
      refine lv_aload_n hx hb dX9_append_50 rfl (lv_at hl 2 rfl) ?_
      refine va_get (D := (dC, dI)) (ci := 8) (v := .int Text_length) (C := RX9) (T := TX9) (N := 5) hx hb hts (fun w h => List.mem_cons_of_mem _ (inX9 w h)) hown hK hP 0 rfl rfl 1 (by decide) (hts _ (List.mem_cons_of_mem _ mw_67)) (fun _ h9 => h9) rfl dX9_append_51 ?_
      refine lv_iload_n hx hb dX9_append_54 rfl (lv_at hl 1 rfl) ?_
      refine lv_iadd hx hb dX9_append_55 ?_
      refine lv_aload_n hx hb dX9_append_56 rfl (lv_at hl 2 rfl) ?_
      refine va_get (D := (dC, dI)) (ci := 8) (v := .ref aText_codes) (C := RX9) (T := TX9) (N := 5) hx hb hts (fun w h => List.mem_cons_of_mem _ (inX9 w h)) hown hK hP 0 rfl rfl 0 (by decide) (hts _ (List.mem_cons_of_mem _ mw_68)) (fun _ h9 => h9) rfl dX9_append_57 ?_
      refine va_alen hx hb hK hP 1 1 rfl rfl (v := (300 : Int32)) rfl dX9_append_60 ?_
      refine lv_icmp_le (tgt := 66) hx hb dX9_append_61 (by decide) (fun c_7 => ?_) (fun c_7 => ?_)
      · have h := it_t c_7 h
        refine lv_iconst (v := (0 : Int32)) hx hb dX9_append_66 (by decide) ?_
        refine lv_istore_n (lv' := [(3, .int (0 : Int32)), (1, .int x1), (2, .int x2), (0, .ref aText)]) hx hb dX9_append_67 rfl hl (by decide) rfl (fun ls hl => ?_)
        exact hj_68 fuel_ x1 x2 (0 : Int32) Text_codes Text_length _ _ _ h hP hD hS (lv_sub hl [1, 2, 0, 3] rfl)
      · have h := it_f c_7 h
        refine lv_iconst (v := (-1 : Int32)) hx hb dX9_append_64 (by decide) ?_
        cases h
        rw [hQ]
        exact W.iret hx hb hr (fun t ht hW => ⟨⟨_, (), rfl, rfl, by rw [ht]; exact hP, va_K.moved hW.alike hK, hD⟩, hS.F ht⟩) hS.2.2 dX9_append_65
  have hj_2 : ∀ (n : Nat), ∀ (x1 : Int32) (x2 : Int32) (Text_codes : Nat → Int32) (Text_length : Int32) (H : Heap) (locs : List Loc) (ls : Array Slot), fnX9_append_2 n x1 x2 Text_codes Text_length = some (rr, w_Text_codes, w_Text_length) → va_P (dC, dI) vwCl [(aText, .inr (8, [.ref aText_codes, .int Text_length, .int Text_wordStart, .int Text_wordEnd, .int Text_wordPlace])), (aText_codes, .inl (cC, 300, .inl Text_codes))] H → va_D A [(aText, .inr (8, [.ref aText_codes, .int Text_length, .int Text_wordStart, .int Text_wordEnd, .int Text_wordPlace])), (aText_codes, .inl (cC, 300, .inl Text_codes))] → va_S A s.heap H locs → lv_has ls 4 [(1, .int x1), (2, .int x2), (0, .ref aText)] → W p l e rmX9_append s m args below meth c H locs 0 0 Q (F0 m 2 ls []) := by
    intro n
    induction n with
    | zero =>
      intro x1 x2 Text_codes Text_length H locs ls h
      cases h
    | succ n ih =>
      intro x1 x2 Text_codes Text_length H locs ls h hP hD hS hl
      rw [fnX9_append_2] at h
      refine lv_iload_n hx hb dX9_append_2 rfl (lv_at hl 1 rfl) ?_
      refine lv_iconst (v := (4 : Int32)) hx hb dX9_append_3 (by decide) ?_
      refine lv_icmp_ge (tgt := 43) hx hb dX9_append_4 (by decide) (fun c_8 => ?_) (fun c_8 => ?_)
      · have h := it_t c_8 h
        exact hj_43 x1 x2 Text_codes Text_length _ _ _ h hP hD hS (lv_sub hl [0, 1, 2] rfl)
      · have h := it_f c_8 h
        refine lv_iload_n hx hb dX9_append_7 rfl (lv_at hl 0 rfl) ?_
        refine lv_iload_n hx hb dX9_append_8 rfl (lv_at hl 1 rfl) ?_
        obtain ⟨r_9, hc_9, h⟩ := bd1_some h
        have hPc := hP.sub (ws' := []) [] rfl
        have hDc := hD.sub (ws' := []) [] (by decide) rfl
        have hFc := va_free (wc := []) hD hS hA [] rfl
        refine va_calli (va_runS (As := [.int x1, .int x2]) (rest := []) ⟨hx, hb, hml, hown, hts⟩ (ctX9_codeOf l dC dI cI cC cJ _ x1 x2 r_9 hc_9) (va_cwS 2 hts (gS_ hc_ mw_344 mw_345 mw_73 mw_346) rfl rfl rfl (by decide +kernel) ⟨Nat.le_of_ble_eq_true rfl, Nat.le_of_ble_eq_true rfl⟩) ⟨fun a U g mk q => by obtain ⟨q0, q1, qP, qK, qD⟩ := q; exact ⟨q0, q1, qP, va_K.moved (u := U) (U := U.calling g mk a) (Vm.Alike.refl U.vm) qK, qD⟩, fun U hU hW => ⟨rfl, by rw [hU], by rw [hU]; exact hPc, va_K.moved hW.alike hK, hDc.weaken (fun _ _ _ _ => trivial)⟩⟩ rfl rfl hl.1 rfl (lv_room (Nat.le_of_ble_eq_true rfl)) dX9_append_9 ⟨Nat.zero_le _, Nat.zero_le _⟩) hS (fun q _ h => hFc q h) hFc (fun r_9 u t H1 locs ht hvm hw hB hz1 hk1 hS => ?_)
        obtain ⟨hP1, hK1, hD1⟩ := hB
        rw [ht] at hP1
        subst hw
        obtain ⟨hP, hD⟩ := va_join (wr := [(aText, .inr (8, [.ref aText_codes, .int Text_length, .int Text_wordStart, .int Text_wordEnd, .int Text_wordPlace])), (aText_codes, .inl (cC, 300, .inl Text_codes))]) (w1 := []) hP hD [] [0, 1] rfl rfl (by decide) (by decide) hk1 hFc hP1 hD1
        generalize H1 = H at hP hS ⊢
        have hP : va_P (dC, dI) vwCl [(aText, .inr (8, [.ref aText_codes, .int Text_length, .int Text_wordStart, .int Text_wordEnd, .int Text_wordPlace])), (aText_codes, .inl (cC, 300, .inl Text_codes))] H := hP
        have hD : va_D A [(aText, .inr (8, [.ref aText_codes, .int Text_length, .int Text_wordStart, .int Text_wordEnd, .int Text_wordPlace])), (aText_codes, .inl (cC, 300, .inl Text_codes))] := hD
        refine lv_if_eq (tgt := 43) hx hb dX9_append_12 (by decide) (fun c_10 => ?_) (fun c_10 => ?_)
        · have h := it_t c_10 h
          exact hj_43 x1 x2 Text_codes Text_length _ _ _ h hP hD hS (lv_sub hl [0, 1, 2] rfl)
        · have h := it_f c_10 h
          refine lv_iload_n hx hb dX9_append_15 rfl (lv_at hl 0 rfl) ?_
          refine lv_iload_n hx hb dX9_append_16 rfl (lv_at hl 1 rfl) ?_
          obtain ⟨r_11, hc_11, h⟩ := bd1_some h
          have hPc := hP.sub (ws' := []) [] rfl
          have hDc := hD.sub (ws' := []) [] (by decide) rfl
          have hFc := va_free (wc := []) hD hS hA [] rfl
          refine va_calli (va_runS (As := [.int x1, .int x2]) (rest := []) ⟨hx, hb, hml, hown, hts⟩ (ctX9_codeOf l dC dI cI cC cJ _ x1 x2 r_11 hc_11) (va_cwS 2 hts (gS_ hc_ mw_344 mw_345 mw_73 mw_346) rfl rfl rfl (by decide +kernel) ⟨Nat.le_of_ble_eq_true rfl, Nat.le_of_ble_eq_true rfl⟩) ⟨fun a U g mk q => by obtain ⟨q0, q1, qP, qK, qD⟩ := q; exact ⟨q0, q1, qP, va_K.moved (u := U) (U := U.calling g mk a) (Vm.Alike.refl U.vm) qK, qD⟩, fun U hU hW => ⟨rfl, by rw [hU], by rw [hU]; exact hPc, va_K.moved hW.alike hK, hDc.weaken (fun _ _ _ _ => trivial)⟩⟩ rfl rfl hl.1 rfl (lv_room (Nat.le_of_ble_eq_true rfl)) dX9_append_17 ⟨Nat.zero_le _, Nat.zero_le _⟩) hS (fun q _ h => hFc q h) hFc (fun r_11 u t H1 locs ht hvm hw hB hz1 hk1 hS => ?_)
          obtain ⟨hP1, hK1, hD1⟩ := hB
          rw [ht] at hP1
          subst hw
          obtain ⟨hP, hD⟩ := va_join (wr := [(aText, .inr (8, [.ref aText_codes, .int Text_length, .int Text_wordStart, .int Text_wordEnd, .int Text_wordPlace])), (aText_codes, .inl (cC, 300, .inl Text_codes))]) (w1 := []) hP hD [] [0, 1] rfl rfl (by decide) (by decide) hk1 hFc hP1 hD1
          generalize H1 = H at hP hS ⊢
          have hP : va_P (dC, dI) vwCl [(aText, .inr (8, [.ref aText_codes, .int Text_length, .int Text_wordStart, .int Text_wordEnd, .int Text_wordPlace])), (aText_codes, .inl (cC, 300, .inl Text_codes))] H := hP
          have hD : va_D A [(aText, .inr (8, [.ref aText_codes, .int Text_length, .int Text_wordStart, .int Text_wordEnd, .int Text_wordPlace])), (aText_codes, .inl (cC, 300, .inl Text_codes))] := hD
          refine lv_bipush (v := (32 : Int32)) hx hb dX9_append_20 (by decide) ?_
          refine lv_icmp_lt (tgt := 35) hx hb dX9_append_22 (by decide) (fun c_12 => ?_) (fun c_12 => ?_)
          · have h := it_t c_12 h
            refine lv_iconst (v := (-1 : Int32)) hx hb dX9_append_35 (by decide) ?_
            cases h
            rw [hQ]
            exact W.iret hx hb hr (fun t ht hW => ⟨⟨_, (), rfl, rfl, by rw [ht]; exact hP, va_K.moved hW.alike hK, hD⟩, hS.F ht⟩) hS.2.2 dX9_append_36
          · have h := it_f c_12 h
            refine lv_iload_n hx hb dX9_append_25 rfl (lv_at hl 0 rfl) ?_
            refine lv_iload_n hx hb dX9_append_26 rfl (lv_at hl 1 rfl) ?_
            obtain ⟨r_13, hc_13, h⟩ := bd1_some h
            have hPc := hP.sub (ws' := []) [] rfl
            have hDc := hD.sub (ws' := []) [] (by decide) rfl
            have hFc := va_free (wc := []) hD hS hA [] rfl
            refine va_calli (va_runS (As := [.int x1, .int x2]) (rest := []) ⟨hx, hb, hml, hown, hts⟩ (ctX9_codeOf l dC dI cI cC cJ _ x1 x2 r_13 hc_13) (va_cwS 2 hts (gS_ hc_ mw_344 mw_345 mw_73 mw_346) rfl rfl rfl (by decide +kernel) ⟨Nat.le_of_ble_eq_true rfl, Nat.le_of_ble_eq_true rfl⟩) ⟨fun a U g mk q => by obtain ⟨q0, q1, qP, qK, qD⟩ := q; exact ⟨q0, q1, qP, va_K.moved (u := U) (U := U.calling g mk a) (Vm.Alike.refl U.vm) qK, qD⟩, fun U hU hW => ⟨rfl, by rw [hU], by rw [hU]; exact hPc, va_K.moved hW.alike hK, hDc.weaken (fun _ _ _ _ => trivial)⟩⟩ rfl rfl hl.1 rfl (lv_room (Nat.le_of_ble_eq_true rfl)) dX9_append_27 ⟨Nat.zero_le _, Nat.zero_le _⟩) hS (fun q _ h => hFc q h) hFc (fun r_13 u t H1 locs ht hvm hw hB hz1 hk1 hS => ?_)
            obtain ⟨hP1, hK1, hD1⟩ := hB
            rw [ht] at hP1
            subst hw
            obtain ⟨hP, hD⟩ := va_join (wr := [(aText, .inr (8, [.ref aText_codes, .int Text_length, .int Text_wordStart, .int Text_wordEnd, .int Text_wordPlace])), (aText_codes, .inl (cC, 300, .inl Text_codes))]) (w1 := []) hP hD [] [0, 1] rfl rfl (by decide) (by decide) hk1 hFc hP1 hD1
            generalize H1 = H at hP hS ⊢
            have hP : va_P (dC, dI) vwCl [(aText, .inr (8, [.ref aText_codes, .int Text_length, .int Text_wordStart, .int Text_wordEnd, .int Text_wordPlace])), (aText_codes, .inl (cC, 300, .inl Text_codes))] H := hP
            have hD : va_D A [(aText, .inr (8, [.ref aText_codes, .int Text_length, .int Text_wordStart, .int Text_wordEnd, .int Text_wordPlace])), (aText_codes, .inl (cC, 300, .inl Text_codes))] := hD
            refine lv_bipush (v := (126 : Int32)) hx hb dX9_append_30 (by decide) ?_
            refine lv_icmp_le (tgt := 37) hx hb dX9_append_32 (by decide) (fun c_14 => ?_) (fun c_14 => ?_)
            · have h := it_t c_14 h
              refine lv_iinc (v := x2 + (1 : Int32)) (lv' := [(2, .int (x2 + (1 : Int32))), (1, .int x1), (0, .ref aText)]) hx hb dX9_append_37 hl (k := 1) rfl rfl (by decide) rfl (fun ls hl => ?_)
              refine lv_goto (tgt := 2) hx hb dX9_append_40 (by decide) ?_
              exact ih x1 (x2 + (1 : Int32)) Text_codes Text_length _ _ _ h hP hD hS (lv_sub hl [1, 0, 2] rfl)
            · have h := it_f c_14 h
              refine lv_iconst (v := (-1 : Int32)) hx hb dX9_append_35 (by decide) ?_
              cases h
              rw [hQ]
              exact W.iret hx hb hr (fun t ht hW => ⟨⟨_, (), rfl, rfl, by rw [ht]; exact hP, va_K.moved hW.alike hK, hD⟩, hS.F ht⟩) hS.2.2 dX9_append_36
  unfold fnX9_append at h
  refine lv_iconst (v := (0 : Int32)) hx hb dX9_append_0 (by decide) ?_
  refine lv_istore_n (lv' := [(2, .int (0 : Int32)), (0, .ref aText), (1, .int p0)]) hx hb dX9_append_1 rfl hl (by decide) rfl (fun ls hl => ?_)
  exact hj_2 fuel_ p0 (0 : Int32) Text_codes Text_length _ _ _ h hP hD hS (lv_sub hl [2, 0, 1] rfl)
