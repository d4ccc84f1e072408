abbrev rmX1_size : Room := { frames := 0, cells := 0, slots := 0, locals := 0 }
set_option maxHeartbeats 4000000 in
set_option maxRecDepth 100000 in
theorem ctX1_size (l : Launch) (dC : Nat → ClassId) (dI : Nat → Nat → Nat) (cI cC cJ : ClassId) (aDictionary aDictionary_keys aDictionary_starts aCode aLinker : Nat) (sz : Nat) (Dictionary_size : Int32) (Dictionary_openLength : Int32)  (rr : Int32)  (h : fnX1_size Dictionary_size  = some rr) : Met l yX1_size wsX1_size rmX1_size (va_Pc [.ref aDictionary] (fun U => U.heap.size = sz ∧ va_P (dC, dI) vwCl [(aDictionary, .inr (1, [.ref aDictionary_keys, .ref aDictionary_starts, .ref aCode, .ref aLinker, .int Dictionary_size, .int Dictionary_openLength]))] U.heap ∧ va_K (dC, dI) vwCl [(cI, .int), (cC, .char), (cJ, .long)] U ∧ va_D (fun _ => True) [(aDictionary, .inr (1, [.ref aDictionary_keys, .ref aDictionary_starts, .ref aCode, .ref aLinker, .int Dictionary_size, .int Dictionary_openLength]))])) (va_Qi (fun r (_ : Unit) => r = rr) (fun _ t => va_P (dC, dI) vwCl [(aDictionary, .inr (1, [.ref aDictionary_keys, .ref aDictionary_starts, .ref aCode, .ref aLinker, .int Dictionary_size, .int Dictionary_openLength]))] t.heap ∧ va_K (dC, dI) vwCl [(cI, .int), (cC, .char), (cJ, .long)] t ∧ va_D (va_A [(aDictionary, .inr (1, [.ref aDictionary_keys, .ref aDictionary_starts, .ref aCode, .ref aLinker, .int Dictionary_size, .int Dictionary_openLength]))] sz) [(aDictionary, .inr (1, [.ref aDictionary_keys, .ref aDictionary_starts, .ref aCode, .ref aLinker, .int Dictionary_size, .int Dictionary_openLength]))]) (va_A [(aDictionary, .inr (1, [.ref aDictionary_keys, .ref aDictionary_starts, .ref aCode, .ref aLinker, .int Dictionary_size, .int Dictionary_openLength]))] sz)) 0 0 (va_A [(aDictionary, .inr (1, [.ref aDictionary_keys, .ref aDictionary_starts, .ref aCode, .ref aLinker, .int Dictionary_size, .int Dictionary_openLength]))] sz) := by
  refine Met.ofW (cc := cX1_size) (maxL := 1) (ret := (some .int)) (by decide) rfl ?_
  intro p e s m args below meth c s₁ B hml hv
  obtain ⟨hargs, hsz, hP, hK, hD0⟩ := hv
  have hx := B.exec
  have hb := B.bytes
  have hr := B.returns
  have hts := atoms_spec (ws := wsX1_size) B.pre
  have hown : s.vm.findClass RX1 = some m.cls := findClass_of_methodNamed B.named
  have hlocks := B.notSynchronized
  subst hsz
  have hD := hD0.self (sz := s.heap.size)
  generalize hAe : va_A [(aDictionary, .inr (1, [.ref aDictionary_keys, .ref aDictionary_starts, .ref aCode, .ref aLinker, .int Dictionary_size, .int Dictionary_openLength]))] s.heap.size = A at hD ⊢
  have hA : ∀ q : Nat, s.heap.size ≤ q → A q := fun q h => by rw [← hAe]; exact Or.inr h
  have hS : va_S A s.heap s.heap [] := va_S.rf
  have hl := lv_entry ([.ref aDictionary]) (n := 1) (Nat.le_of_ble_eq_true rfl)
  have hfr : entryFrame m args 1 = entryFrame m ([.ref aDictionary] : List Value).toArray 1 := by rw [hargs]
  rw [hfr, lg_entry_eq]
  generalize (lg_sl ([.ref aDictionary]) ++ List.replicate (1 - (lg_sl ([.ref aDictionary])).length) Slot.unset).toArray = ls at hl ⊢
  have hl : lv_has ls 1 [(0, .ref aDictionary)] := hl
  refine nameQ_ (fun Q hQ => ?_)
  unfold fnX1_size at h
  refine lv_aload_n hx hb dX1_size_0 rfl (lv_at hl 0 rfl) ?_
  refine va_get (D := (dC, dI)) (ci := 1) (v := .int Dictionary_size) (C := RX1) (T := TX1) (N := 6) hx hb hts (fun w h => List.mem_cons_of_mem _ (inX1 w h)) hown hK hP 0 rfl rfl 4 (by decide) (hts _ (List.mem_cons_of_mem _ mw_2)) (fun _ h9 => h9) rfl dX1_size_1 ?_
  cases h
  rw [hQ]
  exact W.iret hx hb hr (fun t ht hW => ⟨⟨_, (), rfl, rfl, by rw [ht]; exact hP, va_K.moved hW.alike hK, hD⟩, hS.F ht⟩) hS.2.2 dX1_size_4
abbrev rmX1_has : Room := { frames := 0, cells := 0, slots := 0, locals := 0 }
set_option maxHeartbeats 4000000 in
set_option maxRecDepth 100000 in
theorem ctX1_has (l : Launch) (dC : Nat → ClassId) (dI : Nat → Nat → Nat) (cI cC cJ : ClassId) (aDictionary aDictionary_keys aDictionary_starts aCode aLinker : Nat) (sz : Nat) (Dictionary_size : Int32) (Dictionary_openLength : Int32) (p0 : Int32) (rr : Int32)  (h : fnX1_has Dictionary_size p0 = some rr) : Met l yX1_has wsX1_has rmX1_has (va_Pc [.ref aDictionary, .int p0] (fun U => U.heap.size = sz ∧ va_P (dC, dI) vwCl [(aDictionary, .inr (1, [.ref aDictionary_keys, .ref aDictionary_starts, .ref aCode, .ref aLinker, .int Dictionary_size, .int Dictionary_openLength]))] U.heap ∧ va_K (dC, dI) vwCl [(cI, .int), (cC, .char), (cJ, .long)] U ∧ va_D (fun _ => True) [(aDictionary, .inr (1, [.ref aDictionary_keys, .ref aDictionary_starts, .ref aCode, .ref aLinker, .int Dictionary_size, .int Dictionary_openLength]))])) (va_Qi (fun r (_ : Unit) => r = rr) (fun _ t => va_P (dC, dI) vwCl [(aDictionary, .inr (1, [.ref aDictionary_keys, .ref aDictionary_starts, .ref aCode, .ref aLinker, .int Dictionary_size, .int Dictionary_openLength]))] t.heap ∧ va_K (dC, dI) vwCl [(cI, .int), (cC, .char), (cJ, .long)] t ∧ va_D (va_A [(aDictionary, .inr (1, [.ref aDictionary_keys, .ref aDictionary_starts, .ref aCode, .ref aLinker, .int Dictionary_size, .int Dictionary_openLength]))] sz) [(aDictionary, .inr (1, [.ref aDictionary_keys, .ref aDictionary_starts, .ref aCode, .ref aLinker, .int Dictionary_size, .int Dictionary_openLength]))]) (va_A [(aDictionary, .inr (1, [.ref aDictionary_keys, .ref aDictionary_starts, .ref aCode, .ref aLinker, .int Dictionary_size, .int Dictionary_openLength]))] sz)) 0 0 (va_A [(aDictionary, .inr (1, [.ref aDictionary_keys, .ref aDictionary_starts, .ref aCode, .ref aLinker, .int Dictionary_size, .int Dictionary_openLength]))] sz) := by
  refine Met.ofW (cc := cX1_has) (maxL := 2) (ret := (some .boolean)) (by decide) rfl ?_
  intro p e s m args below meth c s₁ B hml hv
  obtain ⟨hargs, hsz, hP, hK, hD0⟩ := hv
  have hx := B.exec
  have hb := B.bytes
  have hr := B.returns
  have hts := atoms_spec (ws := wsX1_has) B.pre
  have hown : s.vm.findClass RX1 = some m.cls := findClass_of_methodNamed B.named
  have hlocks := B.notSynchronized
  subst hsz
  have hD := hD0.self (sz := s.heap.size)
  generalize hAe : va_A [(aDictionary, .inr (1, [.ref aDictionary_keys, .ref aDictionary_starts, .ref aCode, .ref aLinker, .int Dictionary_size, .int Dictionary_openLength]))] s.heap.size = A at hD ⊢
  have hA : ∀ q : Nat, s.heap.size ≤ q → A q := fun q h => by rw [← hAe]; exact Or.inr h
  have hS : va_S A s.heap s.heap [] := va_S.rf
  have hl := lv_entry ([.ref aDictionary, .int p0]) (n := 2) (Nat.le_of_ble_eq_true rfl)
  have hfr : entryFrame m args 2 = entryFrame m ([.ref aDictionary, .int p0] : List Value).toArray 2 := by rw [hargs]
  rw [hfr, lg_entry_eq]
  generalize (lg_sl ([.ref aDictionary, .int p0]) ++ List.replicate (2 - (lg_sl ([.ref aDictionary, .int p0])).length) Slot.unset).toArray = ls at hl ⊢
  have hl : lv_has ls 2 [(0, .ref aDictionary), (1, .int p0)] := hl
  refine nameQ_ (fun Q hQ => ?_)
  unfold fnX1_has at h
  refine lv_iload_n hx hb dX1_has_0 rfl (lv_at hl 1 rfl) ?_
  refine lv_if_lt (tgt := 16) hx hb dX1_has_1 (by decide) (fun c_1 => ?_) (fun c_1 => ?_)
  · have h := it_t c_1 h
    refine lv_iconst (v := (0 : Int32)) hx hb dX1_has_16 (by decide) ?_
    cases h
    rw [hQ]
    exact W.zret (ty := .boolean) hx hb hr rfl (fun t ht hW => ⟨⟨_, (), rfl, rfl, by rw [ht]; exact hP, va_K.moved hW.alike hK, hD⟩, hS.F ht⟩) hS.2.2 dX1_has_17
  · have h := it_f c_1 h
    refine lv_iload_n hx hb dX1_has_4 rfl (lv_at hl 1 rfl) ?_
    refine lv_aload_n hx hb dX1_has_5 rfl (lv_at hl 0 rfl) ?_
    refine va_get (D := (dC, dI)) (ci := 1) (v := .int Dictionary_size) (C := RX1) (T := TX1) (N := 6) hx hb hts (fun w h => List.mem_cons_of_mem _ (inX1 w h)) hown hK hP 0 rfl rfl 4 (by decide) (hts _ (List.mem_cons_of_mem _ mw_2)) (fun _ h9 => h9) rfl dX1_has_6 ?_
    refine lv_icmp_ge (tgt := 16) hx hb dX1_has_9 (by decide) (fun c_2 => ?_) (fun c_2 => ?_)
    · have h := it_t c_2 h
      refine lv_iconst (v := (0 : Int32)) hx hb dX1_has_16 (by decide) ?_
      cases h
      rw [hQ]
      exact W.zret (ty := .boolean) hx hb hr rfl (fun t ht hW => ⟨⟨_, (), rfl, rfl, by rw [ht]; exact hP, va_K.moved hW.alike hK, hD⟩, hS.F ht⟩) hS.2.2 dX1_has_17
    · have h := it_f c_2 h
      refine lv_iconst (v := (1 : Int32)) hx hb dX1_has_12 (by decide) ?_
      refine lv_goto (tgt := 17) hx hb dX1_has_13 (by decide) ?_
      cases h
      rw [hQ]
      exact W.zret (ty := .boolean) hx hb hr rfl (fun t ht hW => ⟨⟨_, (), rfl, rfl, by rw [ht]; exact hP, va_K.moved hW.alike hK, hD⟩, hS.F ht⟩) hS.2.2 dX1_has_17
abbrev rmX1_keyOf : Room := { frames := 0, cells := 0, slots := 0, locals := 0 }
set_option maxHeartbeats 4000000 in
set_option maxRecDepth 100000 in
theorem ctX1_keyOf (l : Launch) (dC : Nat → ClassId) (dI : Nat → Nat → Nat) (cI cC cJ : ClassId) (aDictionary aDictionary_keys aDictionary_starts aCode aLinker : Nat) (sz : Nat) (Dictionary_keys : Nat → Int64) (Dictionary_size : Int32) (Dictionary_openLength : Int32) (p0 : Int32) (rr : Int64)  (h : fnX1_keyOf Dictionary_keys p0 = some rr) : Met l yX1_keyOf wsX1_keyOf rmX1_keyOf (va_Pc [.ref aDictionary, .int p0] (fun U => U.heap.size = sz ∧ va_P (dC, dI) vwCl [(aDictionary, .inr (1, [.ref aDictionary_keys, .ref aDictionary_starts, .ref aCode, .ref aLinker, .int Dictionary_size, .int Dictionary_openLength])), (aDictionary_keys, .inl (cJ, 20, .inr (.inl Dictionary_keys)))] U.heap ∧ va_K (dC, dI) vwCl [(cI, .int), (cC, .char), (cJ, .long)] U ∧ va_D (fun _ => True) [(aDictionary, .inr (1, [.ref aDictionary_keys, .ref aDictionary_starts, .ref aCode, .ref aLinker, .int Dictionary_size, .int Dictionary_openLength])), (aDictionary_keys, .inl (cJ, 20, .inr (.inl Dictionary_keys)))])) (va_Ql (fun r (_ : Unit) => r = rr) (fun _ t => va_P (dC, dI) vwCl [(aDictionary, .inr (1, [.ref aDictionary_keys, .ref aDictionary_starts, .ref aCode, .ref aLinker, .int Dictionary_size, .int Dictionary_openLength])), (aDictionary_keys, .inl (cJ, 20, .inr (.inl Dictionary_keys)))] t.heap ∧ va_K (dC, dI) vwCl [(cI, .int), (cC, .char), (cJ, .long)] t ∧ va_D (va_A [(aDictionary, .inr (1, [.ref aDictionary_keys, .ref aDictionary_starts, .ref aCode, .ref aLinker, .int Dictionary_size, .int Dictionary_openLength])), (aDictionary_keys, .inl (cJ, 20, .inr (.inl Dictionary_keys)))] sz) [(aDictionary, .inr (1, [.ref aDictionary_keys, .ref aDictionary_starts, .ref aCode, .ref aLinker, .int Dictionary_size, .int Dictionary_openLength])), (aDictionary_keys, .inl (cJ, 20, .inr (.inl Dictionary_keys)))]) (va_A [(aDictionary, .inr (1, [.ref aDictionary_keys, .ref aDictionary_starts, .ref aCode, .ref aLinker, .int Dictionary_size, .int Dictionary_openLength])), (aDictionary_keys, .inl (cJ, 20, .inr (.inl Dictionary_keys)))] sz)) 0 0 (va_A [(aDictionary, .inr (1, [.ref aDictionary_keys, .ref aDictionary_starts, .ref aCode, .ref aLinker, .int Dictionary_size, .int Dictionary_openLength])), (aDictionary_keys, .inl (cJ, 20, .inr (.inl Dictionary_keys)))] sz) := by
  refine Met.ofW (cc := cX1_keyOf) (maxL := 2) (ret := (some .long)) (by decide) rfl ?_
  intro p e s m args below meth c s₁ B hml hv
  obtain ⟨hargs, hsz, hP, hK, hD0⟩ := hv
  have hx := B.exec
  have hb := B.bytes
  have hr := B.returns
  have hts := atoms_spec (ws := wsX1_keyOf) B.pre
  have hown : s.vm.findClass RX1 = some m.cls := findClass_of_methodNamed B.named
  have hlocks := B.notSynchronized
  subst hsz
  have hD := hD0.self (sz := s.heap.size)
  generalize hAe : va_A [(aDictionary, .inr (1, [.ref aDictionary_keys, .ref aDictionary_starts, .ref aCode, .ref aLinker, .int Dictionary_size, .int Dictionary_openLength])), (aDictionary_keys, .inl (cJ, 20, .inr (.inl Dictionary_keys)))] s.heap.size = A at hD ⊢
  have hA : ∀ q : Nat, s.heap.size ≤ q → A q := fun q h => by rw [← hAe]; exact Or.inr h
  have hS : va_S A s.heap s.heap [] := va_S.rf
  have hl := lv_entry ([.ref aDictionary, .int p0]) (n := 2) (Nat.le_of_ble_eq_true rfl)
  have hfr : entryFrame m args 2 = entryFrame m ([.ref aDictionary, .int p0] : List Value).toArray 2 := by rw [hargs]
  rw [hfr, lg_entry_eq]
  generalize (lg_sl ([.ref aDictionary, .int p0]) ++ List.replicate (2 - (lg_sl ([.ref aDictionary, .int p0])).length) Slot.unset).toArray = ls at hl ⊢
  have hl : lv_has ls 2 [(0, .ref aDictionary), (1, .int p0)] := hl
  refine nameQ_ (fun Q hQ => ?_)
  unfold fnX1_keyOf at h
  refine lv_iload_n hx hb dX1_keyOf_0 rfl (lv_at hl 1 rfl) ?_
  refine lv_if_lt (tgt := 22) hx hb dX1_keyOf_1 (by decide) (fun c_1 => ?_) (fun c_1 => ?_)
  · have h := it_t c_1 h
    refine lv_lconst (v := (0 : Int64)) hx hb dX1_keyOf_22 (by decide) ?_
    cases h
    rw [hQ]
    exact W.lret hx hb hr (fun t ht hW => ⟨⟨_, (), rfl, rfl, by rw [ht]; exact hP, va_K.moved hW.alike hK, hD⟩, hS.F ht⟩) hS.2.2 dX1_keyOf_23
  · have h := it_f c_1 h
    refine lv_iload_n hx hb dX1_keyOf_4 rfl (lv_at hl 1 rfl) ?_
    refine lv_aload_n hx hb dX1_keyOf_5 rfl (lv_at hl 0 rfl) ?_
    refine va_get (D := (dC, dI)) (ci := 1) (v := .ref aDictionary_keys) (C := RX1) (T := TX1) (N := 6) hx hb hts (fun w h => List.mem_cons_of_mem _ (inX1 w h)) hown hK hP 0 rfl rfl 0 (by decide) (hts _ (List.mem_cons_of_mem _ mw_3)) (fun _ h9 => h9) rfl dX1_keyOf_6 ?_
    refine va_alen hx hb hK hP 1 2 rfl rfl (v := (20 : Int32)) rfl dX1_keyOf_9 ?_
    refine lv_icmp_ge (tgt := 22) hx hb dX1_keyOf_10 (by decide) (fun c_2 => ?_) (fun c_2 => ?_)
    · have h := it_t c_2 h
      refine lv_lconst (v := (0 : Int64)) hx hb dX1_keyOf_22 (by decide) ?_
      cases h
      rw [hQ]
      exact W.lret hx hb hr (fun t ht hW => ⟨⟨_, (), rfl, rfl, by rw [ht]; exact hP, va_K.moved hW.alike hK, hD⟩, hS.F ht⟩) hS.2.2 dX1_keyOf_23
    · have h := it_f c_2 h
      refine lv_aload_n hx hb dX1_keyOf_13 rfl (lv_at hl 0 rfl) ?_
      refine va_get (D := (dC, dI)) (ci := 1) (v := .ref aDictionary_keys) (C := RX1) (T := TX1) (N := 6) hx hb hts (fun w h => List.mem_cons_of_mem _ (inX1 w h)) hown hK hP 0 rfl rfl 0 (by decide) (hts _ (List.mem_cons_of_mem _ mw_3)) (fun _ h9 => h9) rfl dX1_keyOf_14 ?_
      refine lv_iload_n hx hb dX1_keyOf_17 rfl (lv_at hl 1 rfl) ?_
      obtain ⟨x_3, hi_4, h⟩ := bd1_some h
      obtain ⟨hi_4, ex_5⟩ := ga_some hi_4
      refine va_lald hx hb hK hP 1 2 rfl rfl hi_4 dX1_keyOf_18 ?_
      rw [← ex_5]
      refine lv_goto (tgt := 23) hx hb dX1_keyOf_19 (by decide) ?_
      cases h
      rw [hQ]
      exact W.lret hx hb hr (fun t ht hW => ⟨⟨_, (), rfl, rfl, by rw [ht]; exact hP, va_K.moved hW.alike hK, hD⟩, hS.F ht⟩) hS.2.2 dX1_keyOf_23
abbrev rmX1_startOf : Room := { frames := 0, cells := 0, slots := 0, locals := 0 }
set_option maxHeartbeats 4000000 in
set_option maxRecDepth 100000 in
theorem ctX1_startOf (l : Launch) (dC : Nat → ClassId) (dI : Nat → Nat → Nat) (cI cC cJ : ClassId) (aDictionary aDictionary_keys aDictionary_starts aCode aLinker : Nat) (sz : Nat) (Dictionary_starts : Nat → Int32) (Dictionary_size : Int32) (Dictionary_openLength : Int32) (p0 : Int32) (rr : Int32)  (h : fnX1_startOf Dictionary_starts p0 = some rr) : Met l yX1_startOf wsX1_startOf rmX1_startOf (va_Pc [.ref aDictionary, .int p0] (fun U => U.heap.size = sz ∧ va_P (dC, dI) vwCl [(aDictionary, .inr (1, [.ref aDictionary_keys, .ref aDictionary_starts, .ref aCode, .ref aLinker, .int Dictionary_size, .int Dictionary_openLength])), (aDictionary_starts, .inl (cI, 21, .inl Dictionary_starts))] U.heap ∧ va_K (dC, dI) vwCl [(cI, .int), (cC, .char), (cJ, .long)] U ∧ va_D (fun _ => True) [(aDictionary, .inr (1, [.ref aDictionary_keys, .ref aDictionary_starts, .ref aCode, .ref aLinker, .int Dictionary_size, .int Dictionary_openLength])), (aDictionary_starts, .inl (cI, 21, .inl Dictionary_starts))])) (va_Qi (fun r (_ : Unit) => r = rr) (fun _ t => va_P (dC, dI) vwCl [(aDictionary, .inr (1, [.ref aDictionary_keys, .ref aDictionary_starts, .ref aCode, .ref aLinker, .int Dictionary_size, .int Dictionary_openLength])), (aDictionary_starts, .inl (cI, 21, .inl Dictionary_starts))] t.heap ∧ va_K (dC, dI) vwCl [(cI, .int), (cC, .char), (cJ, .long)] t ∧ va_D (va_A [(aDictionary, .inr (1, [.ref aDictionary_keys, .ref aDictionary_starts, .ref aCode, .ref aLinker, .int Dictionary_size, .int Dictionary_openLength])), (aDictionary_starts, .inl (cI, 21, .inl Dictionary_starts))] sz) [(aDictionary, .inr (1, [.ref aDictionary_keys, .ref aDictionary_starts, .ref aCode, .ref aLinker, .int Dictionary_size, .int Dictionary_openLength])), (aDictionary_starts, .inl (cI, 21, .inl Dictionary_starts))]) (va_A [(aDictionary, .inr (1, [.ref aDictionary_keys, .ref aDictionary_starts, .ref aCode, .ref aLinker, .int Dictionary_size, .int Dictionary_openLength])), (aDictionary_starts, .inl (cI, 21, .inl Dictionary_starts))] sz)) 0 0 (va_A [(aDictionary, .inr (1, [.ref aDictionary_keys, .ref aDictionary_starts, .ref aCode, .ref aLinker, .int Dictionary_size, .int Dictionary_openLength])), (aDictionary_starts, .inl (cI, 21, .inl Dictionary_starts))] sz) := by
  refine Met.ofW (cc := cX1_startOf) (maxL := 2) (ret := (some .int)) (by decide) rfl ?_
  intro p e s m args below meth c s₁ B hml hv
  obtain ⟨hargs, hsz, hP, hK, hD0⟩ := hv
  have hx := B.exec
  have hb := B.bytes
  have hr := B.returns
  have hts := atoms_spec (ws := wsX1_startOf) B.pre
  have hown : s.vm.findClass RX1 = some m.cls := findClass_of_methodNamed B.named
  have hlocks := B.notSynchronized
  subst hsz
  have hD := hD0.self (sz := s.heap.size)
  generalize hAe : va_A [(aDictionary, .inr (1, [.ref aDictionary_keys, .ref aDictionary_starts, .ref aCode, .ref aLinker, .int Dictionary_size, .int Dictionary_openLength])), (aDictionary_starts, .inl (cI, 21, .inl Dictionary_starts))] s.heap.size = A at hD ⊢
  have hA : ∀ q : Nat, s.heap.size ≤ q → A q := fun q h => by rw [← hAe]; exact Or.inr h
  have hS : va_S A s.heap s.heap [] := va_S.rf
  have hl := lv_entry ([.ref aDictionary, .int p0]) (n := 2) (Nat.le_of_ble_eq_true rfl)
  have hfr : entryFrame m args 2 = entryFrame m ([.ref aDictionary, .int p0] : List Value).toArray 2 := by rw [hargs]
  rw [hfr, lg_entry_eq]
  generalize (lg_sl ([.ref aDictionary, .int p0]) ++ List.replicate (2 - (lg_sl ([.ref aDictionary, .int p0])).length) Slot.unset).toArray = ls at hl ⊢
  have hl : lv_has ls 2 [(0, .ref aDictionary), (1, .int p0)] := hl
  refine nameQ_ (fun Q hQ => ?_)
  unfold fnX1_startOf at h
  refine lv_iload_n hx hb dX1_startOf_0 rfl (lv_at hl 1 rfl) ?_
  refine lv_if_lt (tgt := 22) hx hb dX1_startOf_1 (by decide) (fun c_1 => ?_) (fun c_1 => ?_)
  · have h := it_t c_1 h
    refine lv_iconst (v := (0 : Int32)) hx hb dX1_startOf_22 (by decide) ?_
    cases h
    rw [hQ]
    exact W.iret hx hb hr (fun t ht hW => ⟨⟨_, (), rfl, rfl, by rw [ht]; exact hP, va_K.moved hW.alike hK, hD⟩, hS.F ht⟩) hS.2.2 dX1_startOf_23
  · have h := it_f c_1 h
    refine lv_iload_n hx hb dX1_startOf_4 rfl (lv_at hl 1 rfl) ?_
    refine lv_aload_n hx hb dX1_startOf_5 rfl (lv_at hl 0 rfl) ?_
    refine va_get (D := (dC, dI)) (ci := 1) (v := .ref aDictionary_starts) (C := RX1) (T := TX1) (N := 6) hx hb hts (fun w h => List.mem_cons_of_mem _ (inX1 w h)) hown hK hP 0 rfl rfl 1 (by decide) (hts _ (List.mem_cons_of_mem _ mw_4)) (fun _ h9 => h9) rfl dX1_startOf_6 ?_
    refine va_alen hx hb hK hP 1 0 rfl rfl (v := (21 : Int32)) rfl dX1_startOf_9 ?_
    refine lv_icmp_ge (tgt := 22) hx hb dX1_startOf_10 (by decide) (fun c_2 => ?_) (fun c_2 => ?_)
    · have h := it_t c_2 h
      refine lv_iconst (v := (0 : Int32)) hx hb dX1_startOf_22 (by decide) ?_
      cases h
      rw [hQ]
      exact W.iret hx hb hr (fun t ht hW => ⟨⟨_, (), rfl, rfl, by rw [ht]; exact hP, va_K.moved hW.alike hK, hD⟩, hS.F ht⟩) hS.2.2 dX1_startOf_23
    · have h := it_f c_2 h
      refine lv_aload_n hx hb dX1_startOf_13 rfl (lv_at hl 0 rfl) ?_
      refine va_get (D := (dC, dI)) (ci := 1) (v := .ref aDictionary_starts) (C := RX1) (T := TX1) (N := 6) hx hb hts (fun w h => List.mem_cons_of_mem _ (inX1 w h)) hown hK hP 0 rfl rfl 1 (by decide) (hts _ (List.mem_cons_of_mem _ mw_4)) (fun _ h9 => h9) rfl dX1_startOf_14 ?_
      refine lv_iload_n hx hb dX1_startOf_17 rfl (lv_at hl 1 rfl) ?_
      obtain ⟨x_3, hi_4, h⟩ := bd1_some h
      obtain ⟨hi_4, ex_5⟩ := ga_some hi_4
      refine va_iald hx hb hK hP 1 0 rfl rfl hi_4 dX1_startOf_18 ?_
      rw [← ex_5]
      refine lv_goto (tgt := 23) hx hb dX1_startOf_19 (by decide) ?_
      cases h
      rw [hQ]
      exact W.iret hx hb hr (fun t ht hW => ⟨⟨_, (), rfl, rfl, by rw [ht]; exact hP, va_K.moved hW.alike hK, hD⟩, hS.F ht⟩) hS.2.2 dX1_startOf_23
abbrev rmX1_endOf : Room := { frames := 0, cells := 0, slots := 0, locals := 0 }
set_option maxHeartbeats 4000000 in
set_option maxRecDepth 100000 in
theorem ctX1_endOf (l : Launch) (dC : Nat → ClassId) (dI : Nat → Nat → Nat) (cI cC cJ : ClassId) (aDictionary aDictionary_keys aDictionary_starts aCode aLinker : Nat) (sz : Nat) (Dictionary_starts : Nat → Int32) (Dictionary_size : Int32) (Dictionary_openLength : Int32) (p0 : Int32) (rr : Int32)  (h : fnX1_endOf Dictionary_starts p0 = some rr) : Met l yX1_endOf wsX1_endOf rmX1_endOf (va_Pc [.ref aDictionary, .int p0] (fun U => U.heap.size = sz ∧ va_P (dC, dI) vwCl [(aDictionary, .inr (1, [.ref aDictionary_keys, .ref aDictionary_starts, .ref aCode, .ref aLinker, .int Dictionary_size, .int Dictionary_openLength])), (aDictionary_starts, .inl (cI, 21, .inl Dictionary_starts))] U.heap ∧ va_K (dC, dI) vwCl [(cI, .int), (cC, .char), (cJ, .long)] U ∧ va_D (fun _ => True) [(aDictionary, .inr (1, [.ref aDictionary_keys, .ref aDictionary_starts, .ref aCode, .ref aLinker, .int Dictionary_size, .int Dictionary_openLength])), (aDictionary_starts, .inl (cI, 21, .inl Dictionary_starts))])) (va_Qi (fun r (_ : Unit) => r = rr) (fun _ t => va_P (dC, dI) vwCl [(aDictionary, .inr (1, [.ref aDictionary_keys, .ref aDictionary_starts, .ref aCode, .ref aLinker, .int Dictionary_size, .int Dictionary_openLength])), (aDictionary_starts, .inl (cI, 21, .inl Dictionary_starts))] t.heap ∧ va_K (dC, dI) vwCl [(cI, .int), (cC, .char), (cJ, .long)] t ∧ va_D (va_A [(aDictionary, .inr (1, [.ref aDictionary_keys, .ref aDictionary_starts, .ref aCode, .ref aLinker, .int Dictionary_size, .int Dictionary_openLength])), (aDictionary_starts, .inl (cI, 21, .inl Dictionary_starts))] sz) [(aDictionary, .inr (1, [.ref aDictionary_keys, .ref aDictionary_starts, .ref aCode, .ref aLinker, .int Dictionary_size, .int Dictionary_openLength])), (aDictionary_starts, .inl (cI, 21, .inl Dictionary_starts))]) (va_A [(aDictionary, .inr (1, [.ref aDictionary_keys, .ref aDictionary_starts, .ref aCode, .ref aLinker, .int Dictionary_size, .int Dictionary_openLength])), (aDictionary_starts, .inl (cI, 21, .inl Dictionary_starts))] sz)) 0 0 (va_A [(aDictionary, .inr (1, [.ref aDictionary_keys, .ref aDictionary_starts, .ref aCode, .ref aLinker, .int Dictionary_size, .int Dictionary_openLength])), (aDictionary_starts, .inl (cI, 21, .inl Dictionary_starts))] sz) := by
  refine Met.ofW (cc := cX1_endOf) (maxL := 2) (ret := (some .int)) (by decide) rfl ?_
  intro p e s m args below meth c s₁ B hml hv
  obtain ⟨hargs, hsz, hP, hK, hD0⟩ := hv
  have hx := B.exec
  have hb := B.bytes
  have hr := B.returns
  have hts := atoms_spec (ws := wsX1_endOf) B.pre
  have hown : s.vm.findClass RX1 = some m.cls := findClass_of_methodNamed B.named
  have hlocks := B.notSynchronized
  subst hsz
  have hD := hD0.self (sz := s.heap.size)
  generalize hAe : va_A [(aDictionary, .inr (1, [.ref aDictionary_keys, .ref aDictionary_starts, .ref aCode, .ref aLinker, .int Dictionary_size, .int Dictionary_openLength])), (aDictionary_starts, .inl (cI, 21, .inl Dictionary_starts))] s.heap.size = A at hD ⊢
  have hA : ∀ q : Nat, s.heap.size ≤ q → A q := fun q h => by rw [← hAe]; exact Or.inr h
  have hS : va_S A s.heap s.heap [] := va_S.rf
  have hl := lv_entry ([.ref aDictionary, .int p0]) (n := 2) (Nat.le_of_ble_eq_true rfl)
  have hfr : entryFrame m args 2 = entryFrame m ([.ref aDictionary, .int p0] : List Value).toArray 2 := by rw [hargs]
  rw [hfr, lg_entry_eq]
  generalize (lg_sl ([.ref aDictionary, .int p0]) ++ List.replicate (2 - (lg_sl ([.ref aDictionary, .int p0])).length) Slot.unset).toArray = ls at hl ⊢
  have hl : lv_has ls 2 [(0, .ref aDictionary), (1, .int p0)] := hl
  refine nameQ_ (fun Q hQ => ?_)
  unfold fnX1_endOf at h
  refine lv_iload_n hx hb dX1_endOf_0 rfl (lv_at hl 1 rfl) ?_
  refine lv_if_lt (tgt := 26) hx hb dX1_endOf_1 (by decide) (fun c_1 => ?_) (fun c_1 => ?_)
  · have h := it_t c_1 h
    refine lv_iconst (v := (0 : Int32)) hx hb dX1_endOf_26 (by decide) ?_
    cases h
    rw [hQ]
    exact W.iret hx hb hr (fun t ht hW => ⟨⟨_, (), rfl, rfl, by rw [ht]; exact hP, va_K.moved hW.alike hK, hD⟩, hS.F ht⟩) hS.2.2 dX1_endOf_27
  · have h := it_f c_1 h
    refine lv_iload_n hx hb dX1_endOf_4 rfl (lv_at hl 1 rfl) ?_
    refine lv_aload_n hx hb dX1_endOf_5 rfl (lv_at hl 0 rfl) ?_
    refine va_get (D := (dC, dI)) (ci := 1) (v := .ref aDictionary_starts) (C := RX1) (T := TX1) (N := 6) hx hb hts (fun w h => List.mem_cons_of_mem _ (inX1 w h)) hown hK hP 0 rfl rfl 1 (by decide) (hts _ (List.mem_cons_of_mem _ mw_4)) (fun _ h9 => h9) rfl dX1_endOf_6 ?_
    refine va_alen hx hb hK hP 1 0 rfl rfl (v := (21 : Int32)) rfl dX1_endOf_9 ?_
    refine lv_iconst (v := (1 : Int32)) hx hb dX1_endOf_10 (by decide) ?_
    refine lv_isub hx hb dX1_endOf_11 ?_
    refine lv_icmp_ge (tgt := 26) hx hb dX1_endOf_12 (by decide) (fun c_2 => ?_) (fun c_2 => ?_)
    · have h := it_t c_2 h
      refine lv_iconst (v := (0 : Int32)) hx hb dX1_endOf_26 (by decide) ?_
      cases h
      rw [hQ]
      exact W.iret hx hb hr (fun t ht hW => ⟨⟨_, (), rfl, rfl, by rw [ht]; exact hP, va_K.moved hW.alike hK, hD⟩, hS.F ht⟩) hS.2.2 dX1_endOf_27
    · have h := it_f c_2 h
      refine lv_aload_n hx hb dX1_endOf_15 rfl (lv_at hl 0 rfl) ?_
      refine va_get (D := (dC, dI)) (ci := 1) (v := .ref aDictionary_starts) (C := RX1) (T := TX1) (N := 6) hx hb hts (fun w h => List.mem_cons_of_mem _ (inX1 w h)) hown hK hP 0 rfl rfl 1 (by decide) (hts _ (List.mem_cons_of_mem _ mw_4)) (fun _ h9 => h9) rfl dX1_endOf_16 ?_
      refine lv_iload_n hx hb dX1_endOf_19 rfl (lv_at hl 1 rfl) ?_
      refine lv_iconst (v := (1 : Int32)) hx hb dX1_endOf_20 (by decide) ?_
      refine lv_iadd hx hb dX1_endOf_21 ?_
      obtain ⟨x_3, hi_4, h⟩ := bd1_some h
      obtain ⟨hi_4, ex_5⟩ := ga_some hi_4
      refine va_iald hx hb hK hP 1 0 rfl rfl hi_4 dX1_endOf_22 ?_
      rw [← ex_5]
      refine lv_goto (tgt := 27) hx hb dX1_endOf_23 (by decide) ?_
      cases h
      rw [hQ]
      exact W.iret hx hb hr (fun t ht hW => ⟨⟨_, (), rfl, rfl, by rw [ht]; exact hP, va_K.moved hW.alike hK, hD⟩, hS.F ht⟩) hS.2.2 dX1_endOf_27
abbrev rmX1_find : Room := { frames := 1, cells := 0, slots := 0, locals := 21 }
set_option maxHeartbeats 4000000 in
set_option maxRecDepth 100000 in
theorem ctX1_find (l : Launch) (dC : Nat → ClassId) (dI : Nat → Nat → Nat) (cI cC cJ : ClassId) (aDictionary aDictionary_keys aDictionary_starts aCode aLinker : Nat) (sz : Nat) (Dictionary_keys : Nat → Int64) (Dictionary_size : Int32) (Dictionary_openLength : Int32) (p0 : Int64) (rr : Int32)  (h : fnX1_find Dictionary_keys Dictionary_size p0 = some rr) : Met l yX1_find wsX1_find rmX1_find (va_Pc [.ref aDictionary, .long p0] (fun U => U.heap.size = sz ∧ va_P (dC, dI) vwCl [(aDictionary, .inr (1, [.ref aDictionary_keys, .ref aDictionary_starts, .ref aCode, .ref aLinker, .int Dictionary_size, .int Dictionary_openLength])), (aDictionary_keys, .inl (cJ, 20, .inr (.inl Dictionary_keys)))] U.heap ∧ va_K (dC, dI) vwCl [(cI, .int), (cC, .char), (cJ, .long)] U ∧ va_D (fun _ => True) [(aDictionary, .inr (1, [.ref aDictionary_keys, .ref aDictionary_starts, .ref aCode, .ref aLinker, .int Dictionary_size, .int Dictionary_openLength])), (aDictionary_keys, .inl (cJ, 20, .inr (.inl Dictionary_keys)))])) (va_Qi (fun r (_ : Unit) => r = rr) (fun _ t => va_P (dC, dI) vwCl [(aDictionary, .inr (1, [.ref aDictionary_keys, .ref aDictionary_starts, .ref aCode, .ref aLinker, .int Dictionary_size, .int Dictionary_openLength])), (aDictionary_keys, .inl (cJ, 20, .inr (.inl Dictionary_keys)))] t.heap ∧ va_K (dC, dI) vwCl [(cI, .int), (cC, .char), (cJ, .long)] t ∧ va_D (va_A [(aDictionary, .inr (1, [.ref aDictionary_keys, .ref aDictionary_starts, .ref aCode, .ref aLinker, .int Dictionary_size, .int Dictionary_openLength])), (aDictionary_keys, .inl (cJ, 20, .inr (.inl Dictionary_keys)))] sz) [(aDictionary, .inr (1, [.ref aDictionary_keys, .ref aDictionary_starts, .ref aCode, .ref aLinker, .int Dictionary_size, .int Dictionary_openLength])), (aDictionary_keys, .inl (cJ, 20, .inr (.inl Dictionary_keys)))]) (va_A [(aDictionary, .inr (1, [.ref aDictionary_keys, .ref aDictionary_starts, .ref aCode, .ref aLinker, .int Dictionary_size, .int Dictionary_openLength])), (aDictionary_keys, .inl (cJ, 20, .inr (.inl Dictionary_keys)))] sz)) 0 0 (va_A [(aDictionary, .inr (1, [.ref aDictionary_keys, .ref aDictionary_starts, .ref aCode, .ref aLinker, .int Dictionary_size, .int Dictionary_openLength])), (aDictionary_keys, .inl (cJ, 20, .inr (.inl Dictionary_keys)))] sz) := by
  refine Met.ofW (cc := cX1_find) (maxL := 4) (ret := (some .int)) (by decide) rfl ?_
  intro p e s m args below meth c s₁ B hml hv
  obtain ⟨hargs, hsz, hP, hK, hD0⟩ := hv
  have hx := B.exec
  have hb := B.bytes
  have hr := B.returns
  have hts := atoms_spec (ws := wsX1_find) B.pre
  have hown : s.vm.findClass RX1 = some m.cls := findClass_of_methodNamed B.named
  have hlocks := B.notSynchronized
  subst hsz
  have hD := hD0.self (sz := s.heap.size)
  generalize hAe : va_A [(aDictionary, .inr (1, [.ref aDictionary_keys, .ref aDictionary_starts, .ref aCode, .ref aLinker, .int Dictionary_size, .int Dictionary_openLength])), (aDictionary_keys, .inl (cJ, 20, .inr (.inl Dictionary_keys)))] s.heap.size = A at hD ⊢
  have hA : ∀ q : Nat, s.heap.size ≤ q → A q := fun q h => by rw [← hAe]; exact Or.inr h
  have hS : va_S A s.heap s.heap [] := va_S.rf
  have hl := lv_entry ([.ref aDictionary, .long p0]) (n := 4) (Nat.le_of_ble_eq_true rfl)
  have hfr : entryFrame m args 4 = entryFrame m ([.ref aDictionary, .long p0] : List Value).toArray 4 := by rw [hargs]
  rw [hfr, lg_entry_eq]
  generalize (lg_sl ([.ref aDictionary, .long p0]) ++ List.replicate (4 - (lg_sl ([.ref aDictionary, .long p0])).length) Slot.unset).toArray = ls at hl ⊢
  have hl : lv_has ls 4 [(0, .ref aDictionary), (1, .long p0)] := hl
  refine nameQ_ (fun Q hQ => ?_)
  have hP : va_P (dC, dI) vwCl [(aDictionary, .inr (1, [.ref aDictionary_keys, .ref aDictionary_starts, .ref aCode, .ref aLinker, .int Dictionary_size, .int Dictionary_openLength])), (aDictionary_keys, .inl (cJ, 20, .inr (.inl Dictionary_keys)))] s.heap := hP
  have hj_7 : ∀ (n : Nat), ∀ (x1 : Int64) (x3 : Int32) (H : Heap) (locs : List Loc) (ls : Array Slot), fnX1_find_7 Dictionary_keys Dictionary_size n x1 x3 = some rr → va_P (dC, dI) vwCl [(aDictionary, .inr (1, [.ref aDictionary_keys, .ref aDictionary_starts, .ref aCode, .ref aLinker, .int Dictionary_size, .int Dictionary_openLength])), (aDictionary_keys, .inl (cJ, 20, .inr (.inl Dictionary_keys)))] H → va_D A [(aDictionary, .inr (1, [.ref aDictionary_keys, .ref aDictionary_starts, .ref aCode, .ref aLinker, .int Dictionary_size, .int Dictionary_openLength])), (aDictionary_keys, .inl (cJ, 20, .inr (.inl Dictionary_keys)))] → va_S A s.heap H locs → lv_has ls 4 [(1, .long x1), (3, .int x3), (0, .ref aDictionary)] → W p l e rmX1_find s m args below meth c H locs 0 0 Q (F0 m 7 ls []) := by
    intro n
    induction n with
    | zero =>
      intro x1 x3 H locs ls h
      cases h
    | succ n ih =>
      intro x1 x3 H locs ls h hP hD hS hl
      rw [fnX1_find_7] at h
      refine lv_iload_n hx hb dX1_find_7 rfl (lv_at hl 1 rfl) ?_
      refine lv_if_lt (tgt := 29) hx hb dX1_find_8 (by decide) (fun c_1 => ?_) (fun c_1 => ?_)
      · have h := it_t c_1 h
        refine lv_iconst (v := (-1 : Int32)) hx hb dX1_find_29 (by decide) ?_
        cases h
        rw [hQ]
        exact W.iret hx hb hr (fun t ht hW => ⟨⟨_, (), rfl, rfl, by rw [ht]; exact hP, va_K.moved hW.alike hK, hD⟩, hS.F ht⟩) hS.2.2 dX1_find_30
      · have h := it_f c_1 h
        refine lv_aload_n hx hb dX1_find_11 rfl (lv_at hl 2 rfl) ?_
        refine lv_iload_n hx hb dX1_find_12 rfl (lv_at hl 1 rfl) ?_
        obtain ⟨r_2, hc_2, h⟩ := bd1_some h
        have hPc := hP.sub (ws' := [(aDictionary, .inr (1, [.ref aDictionary_keys, .ref aDictionary_starts, .ref aCode, .ref aLinker, .int Dictionary_size, .int Dictionary_openLength])), (aDictionary_keys, .inl (cJ, 20, .inr (.inl Dictionary_keys)))]) [0, 1] rfl
        have hDc := hD.sub (ws' := [(aDictionary, .inr (1, [.ref aDictionary_keys, .ref aDictionary_starts, .ref aCode, .ref aLinker, .int Dictionary_size, .int Dictionary_openLength])), (aDictionary_keys, .inl (cJ, 20, .inr (.inl Dictionary_keys)))]) [0, 1] (by decide) rfl
        have hFc := va_free (wc := [(aDictionary, .inr (1, [.ref aDictionary_keys, .ref aDictionary_starts, .ref aCode, .ref aLinker, .int Dictionary_size, .int Dictionary_openLength])), (aDictionary_keys, .inl (cJ, 20, .inr (.inl Dictionary_keys)))]) hD hS hA [0, 1] rfl
        refine va_calll (va_runV (As := [.int x3]) (rest := []) ⟨hx, hb, hml, hown, hts⟩ (ctX1_keyOf l dC dI cI cC cJ aDictionary aDictionary_keys aDictionary_starts aCode aLinker _ Dictionary_keys Dictionary_size Dictionary_openLength x3 r_2 hc_2) (cwV 1 hts (gV_ hc_ mw_5 mw_6 mw_7 mw_8 mw_9) rfl rfl rfl (by decide +kernel) ⟨Nat.le_of_ble_eq_true rfl, Nat.le_of_ble_eq_true rfl⟩) ⟨fun a U g mk q => by obtain ⟨q0, q1, qP, qK, qD⟩ := q; exact ⟨q0, q1, qP, va_K.moved (u := U) (U := U.calling g mk a) (Vm.Alike.refl U.vm) qK, qD⟩, va_recv hK hPc (ci := 1) (q0 := 0) rfl rfl, fun U hU hW => ⟨rfl, by rw [hU], by rw [hU]; exact hPc, va_K.moved hW.alike hK, hDc.weaken (fun _ _ _ _ => trivial)⟩⟩ rfl rfl hl.1 rfl (lv_room (Nat.le_of_ble_eq_true rfl)) dX1_find_13 ⟨Nat.zero_le _, Nat.zero_le _⟩) hS (fun q _ h => hFc q h) hFc (fun r_2 u t H1 locs ht hvm hw hB hz1 hk1 hS => ?_)
        obtain ⟨hP1, hK1, hD1⟩ := hB
        rw [ht] at hP1
        subst hw
        obtain ⟨hP, hD⟩ := va_join (wr := []) (w1 := [(aDictionary, .inr (1, [.ref aDictionary_keys, .ref aDictionary_starts, .ref aCode, .ref aLinker, .int Dictionary_size, .int Dictionary_openLength])), (aDictionary_keys, .inl (cJ, 20, .inr (.inl Dictionary_keys)))]) hP hD [0, 1] [] rfl rfl (by decide) (by decide) hk1 hFc hP1 hD1
        generalize H1 = H at hP hS ⊢
        have hP : va_P (dC, dI) vwCl [(aDictionary, .inr (1, [.ref aDictionary_keys, .ref aDictionary_starts, .ref aCode, .ref aLinker, .int Dictionary_size, .int Dictionary_openLength])), (aDictionary_keys, .inl (cJ, 20, .inr (.inl Dictionary_keys)))] H := hP
        have hD : va_D A [(aDictionary, .inr (1, [.ref aDictionary_keys, .ref aDictionary_starts, .ref aCode, .ref aLinker, .int Dictionary_size, .int Dictionary_openLength])), (aDictionary_keys, .inl (cJ, 20, .inr (.inl Dictionary_keys)))] := hD
        refine lv_lload_n hx hb dX1_find_16 rfl (lv_at hl 0 rfl) ?_
        refine W.lcmp hx hb dX1_find_17 ?_
        refine lv_if_ne (tgt := 23) hx hb dX1_find_18 (by decide) (fun c_3 => ?_) (fun c_3 => ?_)
        · have h := it_f c_3 h
          refine lv_iinc (v := x3 + (-1 : Int32)) (lv' := [(3, .int (x3 + (-1 : Int32))), (1, .long x1), (0, .ref aDictionary)]) hx hb dX1_find_23 hl (k := 1) rfl rfl (by decide) rfl (fun ls hl => ?_)
          refine lv_goto (tgt := 7) hx hb dX1_find_26 (by decide) ?_
          exact ih x1 (x3 + (-1 : Int32)) _ _ _ h hP hD hS (lv_sub hl [1, 0, 2] rfl)
        · have h := it_t c_3 h
          refine lv_iload_n hx hb dX1_find_21 rfl (lv_at hl 1 rfl) ?_
          cases h
          rw [hQ]
          exact W.iret hx hb hr (fun t ht hW => ⟨⟨_, (), rfl, rfl, by rw [ht]; exact hP, va_K.moved hW.alike hK, hD⟩, hS.F ht⟩) hS.2.2 dX1_find_22
  unfold fnX1_find at h
  refine lv_aload_n hx hb dX1_find_0 rfl (lv_at hl 0 rfl) ?_
  refine va_get (D := (dC, dI)) (ci := 1) (v := .int Dictionary_size) (C := RX1) (T := TX1) (N := 6) hx hb hts (fun w h => List.mem_cons_of_mem _ (inX1 w h)) hown hK hP 0 rfl rfl 4 (by decide) (hts _ (List.mem_cons_of_mem _ mw_2)) (fun _ h9 => h9) rfl dX1_find_1 ?_
  refine lv_iconst (v := (1 : Int32)) hx hb dX1_find_4 (by decide) ?_
  refine lv_isub hx hb dX1_find_5 ?_
  refine lv_istore_n (lv' := [(3, .int (Dictionary_size - (1 : Int32))), (0, .ref aDictionary), (1, .long p0)]) hx hb dX1_find_6 rfl hl (by decide) rfl (fun ls hl => ?_)
  exact hj_7 fuel_ p0 (Dictionary_size - (1 : Int32)) _ _ _ h hP hD hS (lv_sub hl [2, 0, 1] rfl)
abbrev rmX1_forgetFrom : Room := { frames := 0, cells := 0, slots := 0, locals := 0 }
set_option maxHeartbeats 4000000 in
set_option maxRecDepth 100000 in
theorem ctX1_forgetFrom (l : Launch) (dC : Nat → ClassId) (dI : Nat → Nat → Nat) (cI cC cJ : ClassId) (aDictionary aDictionary_keys aDictionary_starts aCode aLinker : Nat) (sz : Nat) (Dictionary_size : Int32) (Dictionary_openLength : Int32) (p0 : Int32) (w_Dictionary_size : Int32) (h : fnX1_forgetFrom Dictionary_size p0 = some w_Dictionary_size) : Met l yX1_forgetFrom wsX1_forgetFrom rmX1_forgetFrom (va_Pc [.ref aDictionary, .int p0] (fun U => U.heap.size = sz ∧ va_P (dC, dI) vwCl [(aDictionary, .inr (1, [.ref aDictionary_keys, .ref aDictionary_starts, .ref aCode, .ref aLinker, .int Dictionary_size, .int Dictionary_openLength]))] U.heap ∧ va_K (dC, dI) vwCl [(cI, .int), (cC, .char), (cJ, .long)] U ∧ va_D (fun _ => True) [(aDictionary, .inr (1, [.ref aDictionary_keys, .ref aDictionary_starts, .ref aCode, .ref aLinker, .int Dictionary_size, .int Dictionary_openLength]))])) (va_Qv (fun (_ : Unit) => True) (fun _ t => va_P (dC, dI) vwCl [(aDictionary, .inr (1, [.ref aDictionary_keys, .ref aDictionary_starts, .ref aCode, .ref aLinker, .int w_Dictionary_size, .int Dictionary_openLength]))] t.heap ∧ va_K (dC, dI) vwCl [(cI, .int), (cC, .char), (cJ, .long)] t ∧ va_D (va_A [(aDictionary, .inr (1, [.ref aDictionary_keys, .ref aDictionary_starts, .ref aCode, .ref aLinker, .int Dictionary_size, .int Dictionary_openLength]))] sz) [(aDictionary, .inr (1, [.ref aDictionary_keys, .ref aDictionary_starts, .ref aCode, .ref aLinker, .int w_Dictionary_size, .int Dictionary_openLength]))]) (va_A [(aDictionary, .inr (1, [.ref aDictionary_keys, .ref aDictionary_starts, .ref aCode, .ref aLinker, .int Dictionary_size, .int Dictionary_openLength]))] sz)) 0 0 (va_A [(aDictionary, .inr (1, [.ref aDictionary_keys, .ref aDictionary_starts, .ref aCode, .ref aLinker, .int Dictionary_size, .int Dictionary_openLength]))] sz) := by
  refine Met.ofW (cc := cX1_forgetFrom) (maxL := 2) (ret := none) (by decide) rfl ?_
  intro p e s m args below meth c s₁ B hml hv
  obtain ⟨hargs, hsz, hP, hK, hD0⟩ := hv
  have hx := B.exec
  have hb := B.bytes
  have hr := B.returns
  have hts := atoms_spec (ws := wsX1_forgetFrom) B.pre
  have hown : s.vm.findClass RX1 = some m.cls := findClass_of_methodNamed B.named
  have hlocks := B.notSynchronized
  subst hsz
  have hD := hD0.self (sz := s.heap.size)
  generalize hAe : va_A [(aDictionary, .inr (1, [.ref aDictionary_keys, .ref aDictionary_starts, .ref aCode, .ref aLinker, .int Dictionary_size, .int Dictionary_openLength]))] s.heap.size = A at hD ⊢
  have hA : ∀ q : Nat, s.heap.size ≤ q → A q := fun q h => by rw [← hAe]; exact Or.inr h
  have hS : va_S A s.heap s.heap [] := va_S.rf
  have hl := lv_entry ([.ref aDictionary, .int p0]) (n := 2) (Nat.le_of_ble_eq_true rfl)
  have hfr : entryFrame m args 2 = entryFrame m ([.ref aDictionary, .int p0] : List Value).toArray 2 := by rw [hargs]
  rw [hfr, lg_entry_eq]
  generalize (lg_sl ([.ref aDictionary, .int p0]) ++ List.replicate (2 - (lg_sl ([.ref aDictionary, .int p0])).length) Slot.unset).toArray = ls at hl ⊢
  have hl : lv_has ls 2 [(0, .ref aDictionary), (1, .int p0)] := hl
  refine nameQ_ (fun Q hQ => ?_)
  unfold fnX1_forgetFrom at h
  refine lv_iload_n hx hb dX1_forgetFrom_0 rfl (lv_at hl 1 rfl) ?_
  refine lv_if_lt (tgt := 17) hx hb dX1_forgetFrom_1 (by decide) (fun c_1 => ?_) (fun c_1 => ?_)
  · have h := it_t c_1 h
    cases h
    rw [hQ]
    exact W.vret hx hb hr (fun t ht hW => ⟨⟨(), rfl, trivial, by rw [ht]; exact hP, va_K.moved hW.alike hK, hD⟩, hS.F ht⟩) hS.2.2 dX1_forgetFrom_17
  · have h := it_f c_1 h
    refine lv_iload_n hx hb dX1_forgetFrom_4 rfl (lv_at hl 1 rfl) ?_
    refine lv_aload_n hx hb dX1_forgetFrom_5 rfl (lv_at hl 0 rfl) ?_
    refine va_get (D := (dC, dI)) (ci := 1) (v := .int Dictionary_size) (C := RX1) (T := TX1) (N := 6) hx hb hts (fun w h => List.mem_cons_of_mem _ (inX1 w h)) hown hK hP 0 rfl rfl 4 (by decide) (hts _ (List.mem_cons_of_mem _ mw_2)) (fun _ h9 => h9) rfl dX1_forgetFrom_6 ?_
    refine lv_icmp_ge (tgt := 17) hx hb dX1_forgetFrom_9 (by decide) (fun c_2 => ?_) (fun c_2 => ?_)
    · have h := it_t c_2 h
      cases h
      rw [hQ]
      exact W.vret hx hb hr (fun t ht hW => ⟨⟨(), rfl, trivial, by rw [ht]; exact hP, va_K.moved hW.alike hK, hD⟩, hS.F ht⟩) hS.2.2 dX1_forgetFrom_17
    · have h := it_f c_2 h
      refine lv_aload_n hx hb dX1_forgetFrom_12 rfl (lv_at hl 0 rfl) ?_
      refine lv_iload_n hx hb dX1_forgetFrom_13 rfl (lv_at hl 1 rfl) ?_
      refine va_put (D := (dC, dI)) (ci := 1) (v := .int p0) (ty := .int) (C := RX1) (T := TX1) (N := 6) hx hb hts (fun w h => List.mem_cons_of_mem _ (inX1 w h)) tyX1 tyX1_ok nmX1 hown hK hP hD hS 0 rfl rfl 4 (by decide) (hts _ (List.mem_cons_of_mem _ mw_2)) (fun _ h9 => h9) rfl (by decide +kernel) rfl rfl (Nat.le_of_ble_eq_true rfl) dX1_forgetFrom_14 (fun H locs hP hD hS => ?_)
      have hP : va_P (dC, dI) vwCl [(aDictionary, .inr (1, [.ref aDictionary_keys, .ref aDictionary_starts, .ref aCode, .ref aLinker, .int p0, .int Dictionary_openLength]))] H := hP
      have hD : va_D A [(aDictionary, .inr (1, [.ref aDictionary_keys, .ref aDictionary_starts, .ref aCode, .ref aLinker, .int p0, .int Dictionary_openLength]))] := hD
      cases h
      rw [hQ]
      exact W.vret hx hb hr (fun t ht hW => ⟨⟨(), rfl, trivial, by rw [ht]; exact hP, va_K.moved hW.alike hK, hD⟩, hS.F ht⟩) hS.2.2 dX1_forgetFrom_17
abbrev rmX1_openBody : Room := { frames := 0, cells := 0, slots := 0, locals := 0 }
set_option maxHeartbeats 4000000 in
set_option maxRecDepth 100000 in
theorem ctX1_openBody (l : Launch) (dC : Nat → ClassId) (dI : Nat → Nat → Nat) (cI cC cJ : ClassId) (aDictionary aDictionary_keys aDictionary_starts aCode aLinker : Nat) (sz : Nat) (Dictionary_size : Int32) (Dictionary_openLength : Int32)  (w_Dictionary_openLength : Int32) (h : fnX1_openBody Dictionary_openLength  = some w_Dictionary_openLength) : Met l yX1_openBody wsX1_openBody rmX1_openBody (va_Pc [.ref aDictionary] (fun U => U.heap.size = sz ∧ va_P (dC, dI) vwCl [(aDictionary, .inr (1, [.ref aDictionary_keys, .ref aDictionary_starts, .ref aCode, .ref aLinker, .int Dictionary_size, .int Dictionary_openLength]))] U.heap ∧ va_K (dC, dI) vwCl [(cI, .int), (cC, .char), (cJ, .long)] U ∧ va_D (fun _ => True) [(aDictionary, .inr (1, [.ref aDictionary_keys, .ref aDictionary_starts, .ref aCode, .ref aLinker, .int Dictionary_size, .int Dictionary_openLength]))])) (va_Qv (fun (_ : Unit) => True) (fun _ t => va_P (dC, dI) vwCl [(aDictionary, .inr (1, [.ref aDictionary_keys, .ref aDictionary_starts, .ref aCode, .ref aLinker, .int Dictionary_size, .int w_Dictionary_openLength]))] t.heap ∧ va_K (dC, dI) vwCl [(cI, .int), (cC, .char), (cJ, .long)] t ∧ va_D (va_A [(aDictionary, .inr (1, [.ref aDictionary_keys, .ref aDictionary_starts, .ref aCode, .ref aLinker, .int Dictionary_size, .int Dictionary_openLength]))] sz) [(aDictionary, .inr (1, [.ref aDictionary_keys, .ref aDictionary_starts, .ref aCode, .ref aLinker, .int Dictionary_size, .int w_Dictionary_openLength]))]) (va_A [(aDictionary, .inr (1, [.ref aDictionary_keys, .ref aDictionary_starts, .ref aCode, .ref aLinker, .int Dictionary_size, .int Dictionary_openLength]))] sz)) 0 0 (va_A [(aDictionary, .inr (1, [.ref aDictionary_keys, .ref aDictionary_starts, .ref aCode, .ref aLinker, .int Dictionary_size, .int Dictionary_openLength]))] sz) := by
  refine Met.ofW (cc := cX1_openBody) (maxL := 1) (ret := none) (by decide) rfl ?_
  intro p e s m args below meth c s₁ B hml hv
  obtain ⟨hargs, hsz, hP, hK, hD0⟩ := hv
  have hx := B.exec
  have hb := B.bytes
  have hr := B.returns
  have hts := atoms_spec (ws := wsX1_openBody) B.pre
  have hown : s.vm.findClass RX1 = some m.cls := findClass_of_methodNamed B.named
  have hlocks := B.notSynchronized
  subst hsz
  have hD := hD0.self (sz := s.heap.size)
  generalize hAe : va_A [(aDictionary, .inr (1, [.ref aDictionary_keys, .ref aDictionary_starts, .ref aCode, .ref aLinker, .int Dictionary_size, .int Dictionary_openLength]))] s.heap.size = A at hD ⊢
  have hA : ∀ q : Nat, s.heap.size ≤ q → A q := fun q h => by rw [← hAe]; exact Or.inr h
  have hS : va_S A s.heap s.heap [] := va_S.rf
  have hl := lv_entry ([.ref aDictionary]) (n := 1) (Nat.le_of_ble_eq_true rfl)
  have hfr : entryFrame m args 1 = entryFrame m ([.ref aDictionary] : List Value).toArray 1 := by rw [hargs]
  rw [hfr, lg_entry_eq]
  generalize (lg_sl ([.ref aDictionary]) ++ List.replicate (1 - (lg_sl ([.ref aDictionary])).length) Slot.unset).toArray = ls at hl ⊢
  have hl : lv_has ls 1 [(0, .ref aDictionary)] := hl
  refine nameQ_ (fun Q hQ => ?_)
  unfold fnX1_openBody at h
  refine lv_aload_n hx hb dX1_openBody_0 rfl (lv_at hl 0 rfl) ?_
  refine lv_iconst (v := (0 : Int32)) hx hb dX1_openBody_1 (by decide) ?_
  refine va_put (D := (dC, dI)) (ci := 1) (v := .int (0 : Int32)) (ty := .int) (C := RX1) (T := TX1) (N := 6) hx hb hts (fun w h => List.mem_cons_of_mem _ (inX1 w h)) tyX1 tyX1_ok nmX1 hown hK hP hD hS 0 rfl rfl 5 (by decide) (hts _ (List.mem_cons_of_mem _ mw_10)) (fun _ h9 => h9) rfl (by decide +kernel) rfl rfl (Nat.le_of_ble_eq_true rfl) dX1_openBody_2 (fun H locs hP hD hS => ?_)
  have hP : va_P (dC, dI) vwCl [(aDictionary, .inr (1, [.ref aDictionary_keys, .ref aDictionary_starts, .ref aCode, .ref aLinker, .int Dictionary_size, .int (0 : Int32)]))] H := hP
  have hD : va_D A [(aDictionary, .inr (1, [.ref aDictionary_keys, .ref aDictionary_starts, .ref aCode, .ref aLinker, .int Dictionary_size, .int (0 : Int32)]))] := hD
  cases h
  rw [hQ]
  exact W.vret hx hb hr (fun t ht hW => ⟨⟨(), rfl, trivial, by rw [ht]; exact hP, va_K.moved hW.alike hK, hD⟩, hS.F ht⟩) hS.2.2 dX1_openBody_5
abbrev rmX1_addWord : Room := { frames := 1, cells := 0, slots := 0, locals := 23 }
set_option maxHeartbeats 4000000 in
set_option maxRecDepth 100000 in
theorem ctX1_addWord (l : Launch) (dC : Nat → ClassId) (dI : Nat → Nat → Nat) (cI cC cJ : ClassId) (aCode aCode_ops aCode_args aDictionary aDictionary_keys aDictionary_starts aLinker : Nat) (sz : Nat) (Code_ops : Nat → Int32) (Code_args : Nat → Int32) (Dictionary_starts : Nat → Int32) (Dictionary_size : Int32) (Dictionary_openLength : Int32) (p0 : Int32) (p1 : Int32) (w_Code_ops : Nat → Int32) (w_Code_args : Nat → Int32) (w_Dictionary_openLength : Int32) (h : fnX1_addWord Code_ops Code_args Dictionary_starts Dictionary_size Dictionary_openLength p0 p1 = some (w_Code_ops, w_Code_args, w_Dictionary_openLength)) : Met l yX1_addWord wsX1_addWord rmX1_addWord (va_Pc [.ref aDictionary, .int p0, .int p1] (fun U => U.heap.size = sz ∧ va_P (dC, dI) vwCl [(aCode, .inr (0, [.ref aCode_ops, .ref aCode_args])), (aCode_ops, .inl (cI, 200, .inl Code_ops)), (aCode_args, .inl (cI, 200, .inl Code_args)), (aDictionary, .inr (1, [.ref aDictionary_keys, .ref aDictionary_starts, .ref aCode, .ref aLinker, .int Dictionary_size, .int Dictionary_openLength])), (aDictionary_starts, .inl (cI, 21, .inl Dictionary_starts))] U.heap ∧ va_K (dC, dI) vwCl [(cI, .int), (cC, .char), (cJ, .long)] U ∧ va_D (fun _ => True) [(aCode, .inr (0, [.ref aCode_ops, .ref aCode_args])), (aCode_ops, .inl (cI, 200, .inl Code_ops)), (aCode_args, .inl (cI, 200, .inl Code_args)), (aDictionary, .inr (1, [.ref aDictionary_keys, .ref aDictionary_starts, .ref aCode, .ref aLinker, .int Dictionary_size, .int Dictionary_openLength])), (aDictionary_starts, .inl (cI, 21, .inl Dictionary_starts))])) (va_Qv (fun (_ : Unit) => True) (fun _ t => va_P (dC, dI) vwCl [(aCode, .inr (0, [.ref aCode_ops, .ref aCode_args])), (aCode_ops, .inl (cI, 200, .inl w_Code_ops)), (aCode_args, .inl (cI, 200, .inl w_Code_args)), (aDictionary, .inr (1, [.ref aDictionary_keys, .ref aDictionary_starts, .ref aCode, .ref aLinker, .int Dictionary_size, .int w_Dictionary_openLength])), (aDictionary_starts, .inl (cI, 21, .inl Dictionary_starts))] t.heap ∧ va_K (dC, dI) vwCl [(cI, .int), (cC, .char), (cJ, .long)] t ∧ va_D (va_A [(aCode, .inr (0, [.ref aCode_ops, .ref aCode_args])), (aCode_ops, .inl (cI, 200, .inl Code_ops)), (aCode_args, .inl (cI, 200, .inl Code_args)), (aDictionary, .inr (1, [.ref aDictionary_keys, .ref aDictionary_starts, .ref aCode, .ref aLinker, .int Dictionary_size, .int Dictionary_openLength])), (aDictionary_starts, .inl (cI, 21, .inl Dictionary_starts))] sz) [(aCode, .inr (0, [.ref aCode_ops, .ref aCode_args])), (aCode_ops, .inl (cI, 200, .inl w_Code_ops)), (aCode_args, .inl (cI, 200, .inl w_Code_args)), (aDictionary, .inr (1, [.ref aDictionary_keys, .ref aDictionary_starts, .ref aCode, .ref aLinker, .int Dictionary_size, .int w_Dictionary_openLength])), (aDictionary_starts, .inl (cI, 21, .inl Dictionary_starts))]) (va_A [(aCode, .inr (0, [.ref aCode_ops, .ref aCode_args])), (aCode_ops, .inl (cI, 200, .inl Code_ops)), (aCode_args, .inl (cI, 200, .inl Code_args)), (aDictionary, .inr (1, [.ref aDictionary_keys, .ref aDictionary_starts, .ref aCode, .ref aLinker, .int Dictionary_size, .int Dictionary_openLength])), (aDictionary_starts, .inl (cI, 21, .inl Dictionary_starts))] sz)) 0 0 (va_A [(aCode, .inr (0, [.ref aCode_ops, .ref aCode_args])), (aCode_ops, .inl (cI, 200, .inl Code_ops)), (aCode_args, .inl (cI, 200, .inl Code_args)), (aDictionary, .inr (1, [.ref aDictionary_keys, .ref aDictionary_starts, .ref aCode, .ref aLinker, .int Dictionary_size, .int Dictionary_openLength])), (aDictionary_starts, .inl (cI, 21, .inl Dictionary_starts))] sz) := by
  refine Met.ofW (cc := cX1_addWord) (maxL := 3) (ret := none) (by decide) rfl ?_
  intro p e s m args below meth c s₁ B hml hv
  obtain ⟨hargs, hsz, hP, hK, hD0⟩ := hv
  have hx := B.exec
  have hb := B.bytes
  have hr := B.returns
  have hts := atoms_spec (ws := wsX1_addWord) B.pre
  have hown : s.vm.findClass RX1 = some m.cls := findClass_of_methodNamed B.named
  have hlocks := B.notSynchronized
  subst hsz
  have hD := hD0.self (sz := s.heap.size)
  generalize hAe : va_A [(aCode, .inr (0, [.ref aCode_ops, .ref aCode_args])), (aCode_ops, .inl (cI, 200, .inl Code_ops)), (aCode_args, .inl (cI, 200, .inl Code_args)), (aDictionary, .inr (1, [.ref aDictionary_keys, .ref aDictionary_starts, .ref aCode, .ref aLinker, .int Dictionary_size, .int Dictionary_openLength])), (aDictionary_starts, .inl (cI, 21, .inl Dictionary_starts))] s.heap.size = A at hD ⊢
  have hA : ∀ q : Nat, s.heap.size ≤ q → A q := fun q h => by rw [← hAe]; exact Or.inr h
  have hS : va_S A s.heap s.heap [] := va_S.rf
  have hl := lv_entry ([.ref aDictionary, .int p0, .int p1]) (n := 3) (Nat.le_of_ble_eq_true rfl)
  have hfr : entryFrame m args 3 = entryFrame m ([.ref aDictionary, .int p0, .int p1] : List Value).toArray 3 := by rw [hargs]
  rw [hfr, lg_entry_eq]
  generalize (lg_sl ([.ref aDictionary, .int p0, .int p1]) ++ List.replicate (3 - (lg_sl ([.ref aDictionary, .int p0, .int p1])).length) Slot.unset).toArray = ls at hl ⊢
  have hl : lv_has ls 3 [(0, .ref aDictionary), (1, .int p0), (2, .int p1)] := hl
  refine nameQ_ (fun Q hQ => ?_)
  unfold fnX1_addWord at h
  refine lv_aload_n hx hb dX1_addWord_0 rfl (lv_at hl 0 rfl) ?_
  refine va_get (D := (dC, dI)) (ci := 1) (v := .ref aCode) (C := RX1) (T := TX1) (N := 6) hx hb hts (fun w h => List.mem_cons_of_mem _ (inX1 w h)) hown hK hP 3 rfl rfl 2 (by decide) (hts _ (List.mem_cons_of_mem _ mw_11)) (fun _ h9 => h9) rfl dX1_addWord_1 ?_
  refine lv_aload_n hx hb dX1_addWord_4 rfl (lv_at hl 0 rfl) ?_
  refine lv_aload_n hx hb dX1_addWord_5 rfl (lv_at hl 0 rfl) ?_
  refine va_get (D := (dC, dI)) (ci := 1) (v := .int Dictionary_size) (C := RX1) (T := TX1) (N := 6) hx hb hts (fun w h => List.mem_cons_of_mem _ (inX1 w h)) hown hK hP 3 rfl rfl 4 (by decide) (hts _ (List.mem_cons_of_mem _ mw_2)) (fun _ h9 => h9) rfl dX1_addWord_6 ?_
  obtain ⟨r_1, hc_1, h⟩ := bd1_some h
  have hPc := hP.sub (ws' := [(aDictionary, .inr (1, [.ref aDictionary_keys, .ref aDictionary_starts, .ref aCode, .ref aLinker, .int Dictionary_size, .int Dictionary_openLength])), (aDictionary_starts, .inl (cI, 21, .inl Dictionary_starts))]) [3, 4] rfl
  have hDc := hD.sub (ws' := [(aDictionary, .inr (1, [.ref aDictionary_keys, .ref aDictionary_starts, .ref aCode, .ref aLinker, .int Dictionary_size, .int Dictionary_openLength])), (aDictionary_starts, .inl (cI, 21, .inl Dictionary_starts))]) [3, 4] (by decide) rfl
  have hFc := va_free (wc := [(aDictionary, .inr (1, [.ref aDictionary_keys, .ref aDictionary_starts, .ref aCode, .ref aLinker, .int Dictionary_size, .int Dictionary_openLength])), (aDictionary_starts, .inl (cI, 21, .inl Dictionary_starts))]) hD hS hA [3, 4] rfl
  refine va_calli (va_runV (As := [.int Dictionary_size]) (rest := [.ref aCode]) ⟨hx, hb, hml, hown, hts⟩ (ctX1_startOf l dC dI cI cC cJ aDictionary aDictionary_keys aDictionary_starts aCode aLinker _ Dictionary_starts Dictionary_size Dictionary_openLength Dictionary_size r_1 hc_1) (cwV 1 hts (gV_ hc_ mw_12 mw_13 mw_14 mw_8 mw_15) rfl rfl rfl (by decide +kernel) ⟨Nat.le_of_ble_eq_true rfl, Nat.le_of_ble_eq_true rfl⟩) ⟨fun a U g mk q => by obtain ⟨q0, q1, qP, qK, qD⟩ := q; exact ⟨q0, q1, qP, va_K.moved (u := U) (U := U.calling g mk a) (Vm.Alike.refl U.vm) qK, qD⟩, va_recv hK hPc (ci := 1) (q0 := 0) rfl rfl, fun U hU hW => ⟨rfl, by rw [hU], by rw [hU]; exact hPc, va_K.moved hW.alike hK, hDc.weaken (fun _ _ _ _ => trivial)⟩⟩ rfl rfl hl.1 rfl (lv_room (Nat.le_of_ble_eq_true rfl)) dX1_addWord_9 ⟨Nat.zero_le _, Nat.zero_le _⟩) hS (fun q _ h => hFc q h) hFc (fun r_1 u t H1 locs ht hvm hw hB hz1 hk1 hS => ?_)
  obtain ⟨hP1, hK1, hD1⟩ := hB
  rw [ht] at hP1
  subst hw
  obtain ⟨hP, hD⟩ := va_join (wr := [(aCode, .inr (0, [.ref aCode_ops, .ref aCode_args])), (aCode_ops, .inl (cI, 200, .inl Code_ops)), (aCode_args, .inl (cI, 200, .inl Code_args))]) (w1 := [(aDictionary, .inr (1, [.ref aDictionary_keys, .ref aDictionary_starts, .ref aCode, .ref aLinker, .int Dictionary_size, .int Dictionary_openLength])), (aDictionary_starts, .inl (cI, 21, .inl Dictionary_starts))]) hP hD [3, 4] [0, 1, 2] rfl rfl (by decide) (by decide) hk1 hFc hP1 hD1
  generalize H1 = H at hP hS ⊢
  have hP : va_P (dC, dI) vwCl [(aCode, .inr (0, [.ref aCode_ops, .ref aCode_args])), (aCode_ops, .inl (cI, 200, .inl Code_ops)), (aCode_args, .inl (cI, 200, .inl Code_args)), (aDictionary, .inr (1, [.ref aDictionary_keys, .ref aDictionary_starts, .ref aCode, .ref aLinker, .int Dictionary_size, .int Dictionary_openLength])), (aDictionary_starts, .inl (cI, 21, .inl Dictionary_starts))] H := hP
  have hD : va_D A [(aCode, .inr (0, [.ref aCode_ops, .ref aCode_args])), (aCode_ops, .inl (cI, 200, .inl Code_ops)), (aCode_args, .inl (cI, 200, .inl Code_args)), (aDictionary, .inr (1, [.ref aDictionary_keys, .ref aDictionary_starts, .ref aCode, .ref aLinker, .int Dictionary_size, .int Dictionary_openLength])), (aDictionary_starts, .inl (cI, 21, .inl Dictionary_starts))] := hD
  refine lv_aload_n hx hb dX1_addWord_12 rfl (lv_at hl 0 rfl) ?_
  refine va_get (D := (dC, dI)) (ci := 1) (v := .int Dictionary_openLength) (C := RX1) (T := TX1) (N := 6) hx hb hts (fun w h => List.mem_cons_of_mem _ (inX1 w h)) hown hK hP 3 rfl rfl 5 (by decide) (hts _ (List.mem_cons_of_mem _ mw_10)) (fun _ h9 => h9) rfl dX1_addWord_13 ?_
  refine lv_iadd hx hb dX1_addWord_16 ?_
  refine lv_iload_n hx hb dX1_addWord_17 rfl (lv_at hl 1 rfl) ?_
  refine lv_iload_n hx hb dX1_addWord_18 rfl (lv_at hl 2 rfl) ?_
  obtain ⟨Code_ops_2, Code_args_2, hc_2, h⟩ := bd2_some h
  have hPc := hP.sub (ws' := [(aCode, .inr (0, [.ref aCode_ops, .ref aCode_args])), (aCode_ops, .inl (cI, 200, .inl Code_ops)), (aCode_args, .inl (cI, 200, .inl Code_args))]) [0, 1, 2] rfl
  have hDc := hD.sub (ws' := [(aCode, .inr (0, [.ref aCode_ops, .ref aCode_args])), (aCode_ops, .inl (cI, 200, .inl Code_ops)), (aCode_args, .inl (cI, 200, .inl Code_args))]) [0, 1, 2] (by decide) rfl
  have hFc := va_free (wc := [(aCode, .inr (0, [.ref aCode_ops, .ref aCode_args])), (aCode_ops, .inl (cI, 200, .inl Code_ops)), (aCode_args, .inl (cI, 200, .inl Code_args))]) hD hS hA [0, 1, 2] rfl
  refine va_callv (va_runV (As := [.int (r_1 + Dictionary_openLength), .int p0, .int p1]) (rest := []) ⟨hx, hb, hml, hown, hts⟩ (ctX0_set l dC dI cI cC cJ aCode aCode_ops aCode_args _ Code_ops Code_args (r_1 + Dictionary_openLength) p0 p1 Code_ops_2 Code_args_2 hc_2) (cwV 3 hts (gV_ hc_ mw_16 mw_17 mw_18 mw_19 mw_20) rfl rfl rfl (by decide +kernel) ⟨Nat.le_of_ble_eq_true rfl, Nat.le_of_ble_eq_true rfl⟩) ⟨fun a U g mk q => by obtain ⟨q0, q1, qP, qK, qD⟩ := q; exact ⟨q0, q1, qP, va_K.moved (u := U) (U := U.calling g mk a) (Vm.Alike.refl U.vm) qK, qD⟩, va_recv hK hPc (ci := 0) (q0 := 0) rfl rfl, fun U hU hW => ⟨rfl, by rw [hU], by rw [hU]; exact hPc, va_K.moved hW.alike hK, hDc.weaken (fun _ _ _ _ => trivial)⟩⟩ rfl rfl hl.1 rfl (lv_room (Nat.le_of_ble_eq_true rfl)) dX1_addWord_19 ⟨Nat.zero_le _, Nat.zero_le _⟩) hS (fun q _ h => hFc q h) hFc (fun u t H1 locs ht hvm hw hB hz1 hk1 hS => ?_)
  obtain ⟨hP1, hK1, hD1⟩ := hB
  rw [ht] at hP1
  obtain ⟨hP, hD⟩ := va_join (wr := [(aDictionary, .inr (1, [.ref aDictionary_keys, .ref aDictionary_starts, .ref aCode, .ref aLinker, .int Dictionary_size, .int Dictionary_openLength])), (aDictionary_starts, .inl (cI, 21, .inl Dictionary_starts))]) (w1 := [(aCode, .inr (0, [.ref aCode_ops, .ref aCode_args])), (aCode_ops, .inl (cI, 200, .inl Code_ops_2)), (aCode_args, .inl (cI, 200, .inl Code_args_2))]) hP hD [0, 1, 2] [3, 4] rfl rfl (by decide) (by decide) hk1 hFc hP1 hD1
  generalize H1 = H at hP hS ⊢
  have hP : va_P (dC, dI) vwCl [(aDictionary, .inr (1, [.ref aDictionary_keys, .ref aDictionary_starts, .ref aCode, .ref aLinker, .int Dictionary_size, .int Dictionary_openLength])), (aDictionary_starts, .inl (cI, 21, .inl Dictionary_starts)), (aCode, .inr (0, [.ref aCode_ops, .ref aCode_args])), (aCode_ops, .inl (cI, 200, .inl Code_ops_2)), (aCode_args, .inl (cI, 200, .inl Code_args_2))] H := hP
  have hD : va_D A [(aDictionary, .inr (1, [.ref aDictionary_keys, .ref aDictionary_starts, .ref aCode, .ref aLinker, .int Dictionary_size, .int Dictionary_openLength])), (aDictionary_starts, .inl (cI, 21, .inl Dictionary_starts)), (aCode, .inr (0, [.ref aCode_ops, .ref aCode_args])), (aCode_ops, .inl (cI, 200, .inl Code_ops_2)), (aCode_args, .inl (cI, 200, .inl Code_args_2))] := hD
  refine lv_aload_n hx hb dX1_addWord_22 rfl (lv_at hl 0 rfl) ?_
  refine lv_dup hx hb dX1_addWord_23 rfl ?_
  refine va_get (D := (dC, dI)) (ci := 1) (v := .int Dictionary_openLength) (C := RX1) (T := TX1) (N := 6) hx hb hts (fun w h => List.mem_cons_of_mem _ (inX1 w h)) hown hK hP 0 rfl rfl 5 (by decide) (hts _ (List.mem_cons_of_mem _ mw_10)) (fun _ h9 => h9) rfl dX1_addWord_24 ?_
  refine lv_iconst (v := (1 : Int32)) hx hb dX1_addWord_27 (by decide) ?_
  refine lv_iadd hx hb dX1_addWord_28 ?_
  refine va_put (D := (dC, dI)) (ci := 1) (v := .int (Dictionary_openLength + (1 : Int32))) (ty := .int) (C := RX1) (T := TX1) (N := 6) hx hb hts (fun w h => List.mem_cons_of_mem _ (inX1 w h)) tyX1 tyX1_ok nmX1 hown hK hP hD hS 0 rfl rfl 5 (by decide) (hts _ (List.mem_cons_of_mem _ mw_10)) (fun _ h9 => h9) rfl (by decide +kernel) rfl rfl (Nat.le_of_ble_eq_true rfl) dX1_addWord_29 (fun H locs hP hD hS => ?_)
  have hP : va_P (dC, dI) vwCl [(aDictionary, .inr (1, [.ref aDictionary_keys, .ref aDictionary_starts, .ref aCode, .ref aLinker, .int Dictionary_size, .int (Dictionary_openLength + (1 : Int32))])), (aDictionary_starts, .inl (cI, 21, .inl Dictionary_starts)), (aCode, .inr (0, [.ref aCode_ops, .ref aCode_args])), (aCode_ops, .inl (cI, 200, .inl Code_ops_2)), (aCode_args, .inl (cI, 200, .inl Code_args_2))] H := hP
  have hD : va_D A [(aDictionary, .inr (1, [.ref aDictionary_keys, .ref aDictionary_starts, .ref aCode, .ref aLinker, .int Dictionary_size, .int (Dictionary_openLength + (1 : Int32))])), (aDictionary_starts, .inl (cI, 21, .inl Dictionary_starts)), (aCode, .inr (0, [.ref aCode_ops, .ref aCode_args])), (aCode_ops, .inl (cI, 200, .inl Code_ops_2)), (aCode_args, .inl (cI, 200, .inl Code_args_2))] := hD
  have hP := hP.sub (ws' := [(aCode, .inr (0, [.ref aCode_ops, .ref aCode_args])), (aCode_ops, .inl (cI, 200, .inl Code_ops_2)), (aCode_args, .inl (cI, 200, .inl Code_args_2)), (aDictionary, .inr (1, [.ref aDictionary_keys, .ref aDictionary_starts, .ref aCode, .ref aLinker, .int Dictionary_size, .int (Dictionary_openLength + (1 : Int32))])), (aDictionary_starts, .inl (cI, 21, .inl Dictionary_starts))]) [2, 3, 4, 0, 1] rfl
  have hD := hD.sub (ws' := [(aCode, .inr (0, [.ref aCode_ops, .ref aCode_args])), (aCode_ops, .inl (cI, 200, .inl Code_ops_2)), (aCode_args, .inl (cI, 200, .inl Code_args_2)), (aDictionary, .inr (1, [.ref aDictionary_keys, .ref aDictionary_starts, .ref aCode, .ref aLinker, .int Dictionary_size, .int (Dictionary_openLength + (1 : Int32))])), (aDictionary_starts, .inl (cI, 21, .inl Dictionary_starts))]) [2, 3, 4, 0, 1] (by decide) rfl
  cases h
  rw [hQ]
  exact W.vret hx hb hr (fun t ht hW => ⟨⟨(), rfl, trivial, by rw [ht]; exact hP, va_K.moved hW.alike hK, hD⟩, hS.F ht⟩) hS.2.2 dX1_addWord_32
abbrev rmX2_begin : Room := { frames := 0, cells := 0, slots := 0, locals := 0 }
set_option maxHeartbeats 4000000 in
set_option maxRecDepth 100000 in
theorem ctX2_begin (l : Launch) (dC : Nat → ClassId) (dI : Nat → Nat → Nat) (cI cC cJ : ClassId) (aLinker aCode aLinker_waiting : Nat) (sz : Nat) (Linker_waiting : Nat → Int32) (Linker_open : Int32) (Linker_openLoops : Int32) (p0 : Int32) (p1 : Int32) (rr : Int32) (w_Linker_waiting : Nat → Int32) (w_Linker_open : Int32) (w_Linker_openLoops : Int32) (h : fnX2_begin Linker_waiting Linker_open Linker_openLoops p0 p1 = some (rr, w_Linker_waiting, w_Linker_open, w_Linker_openLoops)) : Met l yX2_begin wsX2_begin rmX2_begin (va_Pc [.ref aLinker, .int p0, .int p1] (fun U => U.heap.size = sz ∧ va_P (dC, dI) vwCl [(aLinker, .inr (2, [.ref aCode, .ref aLinker_waiting, .int Linker_open, .int Linker_openLoops])), (aLinker_waiting, .inl (cI, 8, .inl Linker_waiting))] U.heap ∧ va_K (dC, dI) vwCl [(cI, .int), (cC, .char), (cJ, .long)] U ∧ va_D (fun _ => True) [(aLinker, .inr (2, [.ref aCode, .ref aLinker_waiting, .int Linker_open, .int Linker_openLoops])), (aLinker_waiting, .inl (cI, 8, .inl Linker_waiting))])) (va_Qi (fun r (_ : Unit) => r = rr) (fun _ t => va_P (dC, dI) vwCl [(aLinker, .inr (2, [.ref aCode, .ref aLinker_waiting, .int w_Linker_open, .int w_Linker_openLoops])), (aLinker_waiting, .inl (cI, 8, .inl w_Linker_waiting))] t.heap ∧ va_K (dC, dI) vwCl [(cI, .int), (cC, .char), (cJ, .long)] t ∧ va_D (va_A [(aLinker, .inr (2, [.ref aCode, .ref aLinker_waiting, .int Linker_open, .int Linker_openLoops])), (aLinker_waiting, .inl (cI, 8, .inl Linker_waiting))] sz) [(aLinker, .inr (2, [.ref aCode, .ref aLinker_waiting, .int w_Linker_open, .int w_Linker_openLoops])), (aLinker_waiting, .inl (cI, 8, .inl w_Linker_waiting))]) (va_A [(aLinker, .inr (2, [.ref aCode, .ref aLinker_waiting, .int Linker_open, .int Linker_openLoops])), (aLinker_waiting, .inl (cI, 8, .inl Linker_waiting))] sz)) 0 0 (va_A [(aLinker, .inr (2, [.ref aCode, .ref aLinker_waiting, .int Linker_open, .int Linker_openLoops])), (aLinker_waiting, .inl (cI, 8, .inl Linker_waiting))] sz) := by
  refine Met.ofW (cc := cX2_begin) (maxL := 3) (ret := (some .boolean)) (by decide) rfl ?_
  intro p e s m args below meth c s₁ B hml hv
  obtain ⟨hargs, hsz, hP, hK, hD0⟩ := hv
  have hx := B.exec
  have hb := B.bytes
  have hr := B.returns
  have hts := atoms_spec (ws := wsX2_begin) B.pre
  have hown : s.vm.findClass RX2 = some m.cls := findClass_of_methodNamed B.named
  have hlocks := B.notSynchronized
  subst hsz
  have hD := hD0.self (sz := s.heap.size)
  generalize hAe : va_A [(aLinker, .inr (2, [.ref aCode, .ref aLinker_waiting, .int Linker_open, .int Linker_openLoops])), (aLinker_waiting, .inl (cI, 8, .inl Linker_waiting))] s.heap.size = A at hD ⊢
  have hA : ∀ q : Nat, s.heap.size ≤ q → A q := fun q h => by rw [← hAe]; exact Or.inr h
  have hS : va_S A s.heap s.heap [] := va_S.rf
  have hl := lv_entry ([.ref aLinker, .int p0, .int p1]) (n := 3) (Nat.le_of_ble_eq_true rfl)
  have hfr : entryFrame m args 3 = entryFrame m ([.ref aLinker, .int p0, .int p1] : List Value).toArray 3 := by rw [hargs]
  rw [hfr, lg_entry_eq]
  generalize (lg_sl ([.ref aLinker, .int p0, .int p1]) ++ List.replicate (3 - (lg_sl ([.ref aLinker, .int p0, .int p1])).length) Slot.unset).toArray = ls at hl ⊢
  have hl : lv_has ls 3 [(0, .ref aLinker), (1, .int p0), (2, .int p1)] := hl
  refine nameQ_ (fun Q hQ => ?_)
  unfold fnX2_begin at h
  refine lv_aload_n hx hb dX2_begin_0 rfl (lv_at hl 0 rfl) ?_
  refine va_get (D := (dC, dI)) (ci := 2) (v := .int Linker_open) (C := RX2) (T := TX2) (N := 4) hx hb hts (fun w h => List.mem_cons_of_mem _ (inX2 w h)) hown hK hP 0 rfl rfl 2 (by decide) (hts _ (List.mem_cons_of_mem _ mw_21)) (fun _ h9 => h9) rfl dX2_begin_1 ?_
  refine lv_if_lt (tgt := 19) hx hb dX2_begin_4 (by decide) (fun c_1 => ?_) (fun c_1 => ?_)
  · have h := it_t c_1 h
    refine lv_iconst (v := (0 : Int32)) hx hb dX2_begin_19 (by decide) ?_
    cases h
    rw [hQ]
    exact W.zret (ty := .boolean) hx hb hr rfl (fun t ht hW => ⟨⟨_, (), rfl, rfl, by rw [ht]; exact hP, va_K.moved hW.alike hK, hD⟩, hS.F ht⟩) hS.2.2 dX2_begin_20
  · have h := it_f c_1 h
    refine lv_aload_n hx hb dX2_begin_7 rfl (lv_at hl 0 rfl) ?_
    refine va_get (D := (dC, dI)) (ci := 2) (v := .int Linker_open) (C := RX2) (T := TX2) (N := 4) hx hb hts (fun w h => List.mem_cons_of_mem _ (inX2 w h)) hown hK hP 0 rfl rfl 2 (by decide) (hts _ (List.mem_cons_of_mem _ mw_21)) (fun _ h9 => h9) rfl dX2_begin_8 ?_
    refine lv_aload_n hx hb dX2_begin_11 rfl (lv_at hl 0 rfl) ?_
    refine va_get (D := (dC, dI)) (ci := 2) (v := .ref aLinker_waiting) (C := RX2) (T := TX2) (N := 4) hx hb hts (fun w h => List.mem_cons_of_mem _ (inX2 w h)) hown hK hP 0 rfl rfl 1 (by decide) (hts _ (List.mem_cons_of_mem _ mw_22)) (fun _ h9 => h9) rfl dX2_begin_12 ?_
    refine va_alen hx hb hK hP 1 0 rfl rfl (v := (8 : Int32)) rfl dX2_begin_15 ?_
    refine lv_icmp_lt (tgt := 21) hx hb dX2_begin_16 (by decide) (fun c_2 => ?_) (fun c_2 => ?_)
    · have h := it_t c_2 h
      refine lv_aload_n hx hb dX2_begin_21 rfl (lv_at hl 0 rfl) ?_
      refine va_get (D := (dC, dI)) (ci := 2) (v := .ref aLinker_waiting) (C := RX2) (T := TX2) (N := 4) hx hb hts (fun w h => List.mem_cons_of_mem _ (inX2 w h)) hown hK hP 0 rfl rfl 1 (by decide) (hts _ (List.mem_cons_of_mem _ mw_22)) (fun _ h9 => h9) rfl dX2_begin_22 ?_
      refine lv_aload_n hx hb dX2_begin_25 rfl (lv_at hl 0 rfl) ?_
      refine va_get (D := (dC, dI)) (ci := 2) (v := .int Linker_open) (C := RX2) (T := TX2) (N := 4) hx hb hts (fun w h => List.mem_cons_of_mem _ (inX2 w h)) hown hK hP 0 rfl rfl 2 (by decide) (hts _ (List.mem_cons_of_mem _ mw_21)) (fun _ h9 => h9) rfl dX2_begin_26 ?_
      refine lv_iload_n hx hb dX2_begin_29 rfl (lv_at hl 1 rfl) ?_
      obtain ⟨f_3, hi_4, h⟩ := bd1_some h
      obtain ⟨hi_4, ex_5⟩ := sa_some hi_4
      refine va_iast hx hb hK hP hD hS 1 0 rfl rfl hi_4 dX2_begin_30 (fun H locs hP hD hS => ?_)
      rw [← ex_5] at hP hD
      have hP : va_P (dC, dI) vwCl [(aLinker, .inr (2, [.ref aCode, .ref aLinker_waiting, .int Linker_open, .int Linker_openLoops])), (aLinker_waiting, .inl (cI, 8, .inl f_3))] H := hP
      have hD : va_D A [(aLinker, .inr (2, [.ref aCode, .ref aLinker_waiting, .int Linker_open, .int Linker_openLoops])), (aLinker_waiting, .inl (cI, 8, .inl f_3))] := hD
      refine lv_aload_n hx hb dX2_begin_31 rfl (lv_at hl 0 rfl) ?_
      refine lv_dup hx hb dX2_begin_32 rfl ?_
      refine va_get (D := (dC, dI)) (ci := 2) (v := .int Linker_open) (C := RX2) (T := TX2) (N := 4) hx hb hts (fun w h => List.mem_cons_of_mem _ (inX2 w h)) hown hK hP 0 rfl rfl 2 (by decide) (hts _ (List.mem_cons_of_mem _ mw_21)) (fun _ h9 => h9) rfl dX2_begin_33 ?_
      refine lv_iconst (v := (1 : Int32)) hx hb dX2_begin_36 (by decide) ?_
      refine lv_iadd hx hb dX2_begin_37 ?_
      refine va_put (D := (dC, dI)) (ci := 2) (v := .int (Linker_open + (1 : Int32))) (ty := .int) (C := RX2) (T := TX2) (N := 4) hx hb hts (fun w h => List.mem_cons_of_mem _ (inX2 w h)) tyX2 tyX2_ok nmX2 hown hK hP hD hS 0 rfl rfl 2 (by decide) (hts _ (List.mem_cons_of_mem _ mw_21)) (fun _ h9 => h9) rfl (by decide +kernel) rfl rfl (Nat.le_of_ble_eq_true rfl) dX2_begin_38 (fun H locs hP hD hS => ?_)
      have hP : va_P (dC, dI) vwCl [(aLinker, .inr (2, [.ref aCode, .ref aLinker_waiting, .int (Linker_open + (1 : Int32)), .int Linker_openLoops])), (aLinker_waiting, .inl (cI, 8, .inl f_3))] H := hP
      have hD : va_D A [(aLinker, .inr (2, [.ref aCode, .ref aLinker_waiting, .int (Linker_open + (1 : Int32)), .int Linker_openLoops])), (aLinker_waiting, .inl (cI, 8, .inl f_3))] := hD
      refine lv_iload_n hx hb dX2_begin_41 rfl (lv_at hl 2 rfl) ?_
      refine lv_bipush (v := (41 : Int32)) hx hb dX2_begin_42 (by decide) ?_
      refine lv_icmp_ne (tgt := 57) hx hb dX2_begin_44 (by decide) (fun c_6 => ?_) (fun c_6 => ?_)
      · have h := it_f c_6 h
        refine lv_iconst (v := (1 : Int32)) hx hb dX2_begin_57 (by decide) ?_
        cases h
        rw [hQ]
        exact W.zret (ty := .boolean) hx hb hr rfl (fun t ht hW => ⟨⟨_, (), rfl, rfl, by rw [ht]; exact hP, va_K.moved hW.alike hK, hD⟩, hS.F ht⟩) hS.2.2 dX2_begin_58
      · have h := it_t c_6 h
        refine lv_aload_n hx hb dX2_begin_47 rfl (lv_at hl 0 rfl) ?_
        refine lv_dup hx hb dX2_begin_48 rfl ?_
        refine va_get (D := (dC, dI)) (ci := 2) (v := .int Linker_openLoops) (C := RX2) (T := TX2) (N := 4) hx hb hts (fun w h => List.mem_cons_of_mem _ (inX2 w h)) hown hK hP 0 rfl rfl 3 (by decide) (hts _ (List.mem_cons_of_mem _ mw_23)) (fun _ h9 => h9) rfl dX2_begin_49 ?_
        refine lv_iconst (v := (1 : Int32)) hx hb dX2_begin_52 (by decide) ?_
        refine lv_iadd hx hb dX2_begin_53 ?_
        refine va_put (D := (dC, dI)) (ci := 2) (v := .int (Linker_openLoops + (1 : Int32))) (ty := .int) (C := RX2) (T := TX2) (N := 4) hx hb hts (fun w h => List.mem_cons_of_mem _ (inX2 w h)) tyX2 tyX2_ok nmX2 hown hK hP hD hS 0 rfl rfl 3 (by decide) (hts _ (List.mem_cons_of_mem _ mw_23)) (fun _ h9 => h9) rfl (by decide +kernel) rfl rfl (Nat.le_of_ble_eq_true rfl) dX2_begin_54 (fun H locs hP hD hS => ?_)
        have hP : va_P (dC, dI) vwCl [(aLinker, .inr (2, [.ref aCode, .ref aLinker_waiting, .int (Linker_open + (1 : Int32)), .int (Linker_openLoops + (1 : Int32))])), (aLinker_waiting, .inl (cI, 8, .inl f_3))] H := hP
        have hD : va_D A [(aLinker, .inr (2, [.ref aCode, .ref aLinker_waiting, .int (Linker_open + (1 : Int32)), .int (Linker_openLoops + (1 : Int32))])), (aLinker_waiting, .inl (cI, 8, .inl f_3))] := hD
        refine lv_iconst (v := (1 : Int32)) hx hb dX2_begin_57 (by decide) ?_
        cases h
        rw [hQ]
        exact W.zret (ty := .boolean) hx hb hr rfl (fun t ht hW => ⟨⟨_, (), rfl, rfl, by rw [ht]; exact hP, va_K.moved hW.alike hK, hD⟩, hS.F ht⟩) hS.2.2 dX2_begin_58
    · have h := it_f c_2 h
      refine lv_iconst (v := (0 : Int32)) hx hb dX2_begin_19 (by decide) ?_
      cases h
      rw [hQ]
      exact W.zret (ty := .boolean) hx hb hr rfl (fun t ht hW => ⟨⟨_, (), rfl, rfl, by rw [ht]; exact hP, va_K.moved hW.alike hK, hD⟩, hS.F ht⟩) hS.2.2 dX2_begin_20
abbrev rmX2_divide : Room := { frames := 1, cells := 0, slots := 0, locals := 22 }
set_option maxHeartbeats 4000000 in
set_option maxRecDepth 100000 in
theorem ctX2_divide (l : Launch) (dC : Nat → ClassId) (dI : Nat → Nat → Nat) (cI cC cJ : ClassId) (aCode aCode_ops aCode_args aLinker aLinker_waiting : Nat) (sz : Nat) (Code_ops : Nat → Int32) (Code_args : Nat → Int32) (Linker_waiting : Nat → Int32) (Linker_open : Int32) (Linker_openLoops : Int32) (p0 : Int32) (p1 : Int32) (rr : Int32) (w_Code_args : Nat → Int32) (w_Linker_waiting : Nat → Int32) (h : fnX2_divide Code_ops Code_args Linker_waiting Linker_open p0 p1 = some (rr, w_Code_args, w_Linker_waiting)) : Met l yX2_divide wsX2_divide rmX2_divide (va_Pc [.ref aLinker, .int p0, .int p1] (fun U => U.heap.size = sz ∧ va_P (dC, dI) vwCl [(aCode, .inr (0, [.ref aCode_ops, .ref aCode_args])), (aCode_ops, .inl (cI, 200, .inl Code_ops)), (aCode_args, .inl (cI, 200, .inl Code_args)), (aLinker, .inr (2, [.ref aCode, .ref aLinker_waiting, .int Linker_open, .int Linker_openLoops])), (aLinker_waiting, .inl (cI, 8, .inl Linker_waiting))] U.heap ∧ va_K (dC, dI) vwCl [(cI, .int), (cC, .char), (cJ, .long)] U ∧ va_D (fun _ => True) [(aCode, .inr (0, [.ref aCode_ops, .ref aCode_args])), (aCode_ops, .inl (cI, 200, .inl Code_ops)), (aCode_args, .inl (cI, 200, .inl Code_args)), (aLinker, .inr (2, [.ref aCode, .ref aLinker_waiting, .int Linker_open, .int Linker_openLoops])), (aLinker_waiting, .inl (cI, 8, .inl Linker_waiting))])) (va_Qi (fun r (_ : Unit) => r = rr) (fun _ t => va_P (dC, dI) vwCl [(aCode, .inr (0, [.ref aCode_ops, .ref aCode_args])), (aCode_ops, .inl (cI, 200, .inl Code_ops)), (aCode_args, .inl (cI, 200, .inl w_Code_args)), (aLinker, .inr (2, [.ref aCode, .ref aLinker_waiting, .int Linker_open, .int Linker_openLoops])), (aLinker_waiting, .inl (cI, 8, .inl w_Linker_waiting))] t.heap ∧ va_K (dC, dI) vwCl [(cI, .int), (cC, .char), (cJ, .long)] t ∧ va_D (va_A [(aCode, .inr (0, [.ref aCode_ops, .ref aCode_args])), (aCode_ops, .inl (cI, 200, .inl Code_ops)), (aCode_args, .inl (cI, 200, .inl Code_args)), (aLinker, .inr (2, [.ref aCode, .ref aLinker_waiting, .int Linker_open, .int Linker_openLoops])), (aLinker_waiting, .inl (cI, 8, .inl Linker_waiting))] sz) [(aCode, .inr (0, [.ref aCode_ops, .ref aCode_args])), (aCode_ops, .inl (cI, 200, .inl Code_ops)), (aCode_args, .inl (cI, 200, .inl w_Code_args)), (aLinker, .inr (2, [.ref aCode, .ref aLinker_waiting, .int Linker_open, .int Linker_openLoops])), (aLinker_waiting, .inl (cI, 8, .inl w_Linker_waiting))]) (va_A [(aCode, .inr (0, [.ref aCode_ops, .ref aCode_args])), (aCode_ops, .inl (cI, 200, .inl Code_ops)), (aCode_args, .inl (cI, 200, .inl Code_args)), (aLinker, .inr (2, [.ref aCode, .ref aLinker_waiting, .int Linker_open, .int Linker_openLoops])), (aLinker_waiting, .inl (cI, 8, .inl Linker_waiting))] sz)) 0 0 (va_A [(aCode, .inr (0, [.ref aCode_ops, .ref aCode_args])), (aCode_ops, .inl (cI, 200, .inl Code_ops)), (aCode_args, .inl (cI, 200, .inl Code_args)), (aLinker, .inr (2, [.ref aCode, .ref aLinker_waiting, .int Linker_open, .int Linker_openLoops])), (aLinker_waiting, .inl (cI, 8, .inl Linker_waiting))] sz) := by
  refine Met.ofW (cc := cX2_divide) (maxL := 4) (ret := (some .boolean)) (by decide) rfl ?_
  intro p e s m args below meth c s₁ B hml hv
  obtain ⟨hargs, hsz, hP, hK, hD0⟩ := hv
  have hx := B.exec
  have hb := B.bytes
  have hr := B.returns
  have hts := atoms_spec (ws := wsX2_divide) B.pre
  have hown : s.vm.findClass RX2 = some m.cls := findClass_of_methodNamed B.named
  have hlocks := B.notSynchronized
  subst hsz
  have hD := hD0.self (sz := s.heap.size)
  generalize hAe : va_A [(aCode, .inr (0, [.ref aCode_ops, .ref aCode_args])), (aCode_ops, .inl (cI, 200, .inl Code_ops)), (aCode_args, .inl (cI, 200, .inl Code_args)), (aLinker, .inr (2, [.ref aCode, .ref aLinker_waiting, .int Linker_open, .int Linker_openLoops])), (aLinker_waiting, .inl (cI, 8, .inl Linker_waiting))] s.heap.size = A at hD ⊢
  have hA : ∀ q : Nat, s.heap.size ≤ q → A q := fun q h => by rw [← hAe]; exact Or.inr h
  have hS : va_S A s.heap s.heap [] := va_S.rf
  have hl := lv_entry ([.ref aLinker, .int p0, .int p1]) (n := 4) (Nat.le_of_ble_eq_true rfl)
  have hfr : entryFrame m args 4 = entryFrame m ([.ref aLinker, .int p0, .int p1] : List Value).toArray 4 := by rw [hargs]
  rw [hfr, lg_entry_eq]
  generalize (lg_sl ([.ref aLinker, .int p0, .int p1]) ++ List.replicate (4 - (lg_sl ([.ref aLinker, .int p0, .int p1])).length) Slot.unset).toArray = ls at hl ⊢
  have hl : lv_has ls 4 [(0, .ref aLinker), (1, .int p0), (2, .int p1)] := hl
  refine nameQ_ (fun Q hQ => ?_)
  unfold fnX2_divide at h
  refine lv_aload_n hx hb dX2_divide_0 rfl (lv_at hl 0 rfl) ?_
  refine va_get (D := (dC, dI)) (ci := 2) (v := .int Linker_open) (C := RX2) (T := TX2) (N := 4) hx hb hts (fun w h => List.mem_cons_of_mem _ (inX2 w h)) hown hK hP 3 rfl rfl 2 (by decide) (hts _ (List.mem_cons_of_mem _ mw_21)) (fun _ h9 => h9) rfl dX2_divide_1 ?_
  refine lv_if_le (tgt := 19) hx hb dX2_divide_4 (by decide) (fun c_1 => ?_) (fun c_1 => ?_)
  · have h := it_t c_1 h
    refine lv_iconst (v := (0 : Int32)) hx hb dX2_divide_19 (by decide) ?_
    cases h
    rw [hQ]
    exact W.zret (ty := .boolean) hx hb hr rfl (fun t ht hW => ⟨⟨_, (), rfl, rfl, by rw [ht]; exact hP, va_K.moved hW.alike hK, hD⟩, hS.F ht⟩) hS.2.2 dX2_divide_20
  · have h := it_f c_1 h
    refine lv_aload_n hx hb dX2_divide_7 rfl (lv_at hl 0 rfl) ?_
    refine va_get (D := (dC, dI)) (ci := 2) (v := .int Linker_open) (C := RX2) (T := TX2) (N := 4) hx hb hts (fun w h => List.mem_cons_of_mem _ (inX2 w h)) hown hK hP 3 rfl rfl 2 (by decide) (hts _ (List.mem_cons_of_mem _ mw_21)) (fun _ h9 => h9) rfl dX2_divide_8 ?_
    refine lv_aload_n hx hb dX2_divide_11 rfl (lv_at hl 0 rfl) ?_
    refine va_get (D := (dC, dI)) (ci := 2) (v := .ref aLinker_waiting) (C := RX2) (T := TX2) (N := 4) hx hb hts (fun w h => List.mem_cons_of_mem _ (inX2 w h)) hown hK hP 3 rfl rfl 1 (by decide) (hts _ (List.mem_cons_of_mem _ mw_22)) (fun _ h9 => h9) rfl dX2_divide_12 ?_
    refine va_alen hx hb hK hP 4 0 rfl rfl (v := (8 : Int32)) rfl dX2_divide_15 ?_
    refine lv_icmp_le (tgt := 21) hx hb dX2_divide_16 (by decide) (fun c_2 => ?_) (fun c_2 => ?_)
    · have h := it_t c_2 h
      refine lv_aload_n hx hb dX2_divide_21 rfl (lv_at hl 0 rfl) ?_
      refine va_get (D := (dC, dI)) (ci := 2) (v := .ref aLinker_waiting) (C := RX2) (T := TX2) (N := 4) hx hb hts (fun w h => List.mem_cons_of_mem _ (inX2 w h)) hown hK hP 3 rfl rfl 1 (by decide) (hts _ (List.mem_cons_of_mem _ mw_22)) (fun _ h9 => h9) rfl dX2_divide_22 ?_
      refine lv_aload_n hx hb dX2_divide_25 rfl (lv_at hl 0 rfl) ?_
      refine va_get (D := (dC, dI)) (ci := 2) (v := .int Linker_open) (C := RX2) (T := TX2) (N := 4) hx hb hts (fun w h => List.mem_cons_of_mem _ (inX2 w h)) hown hK hP 3 rfl rfl 2 (by decide) (hts _ (List.mem_cons_of_mem _ mw_21)) (fun _ h9 => h9) rfl dX2_divide_26 ?_
      refine lv_iconst (v := (1 : Int32)) hx hb dX2_divide_29 (by decide) ?_
      refine lv_isub hx hb dX2_divide_30 ?_
      obtain ⟨x_3, hi_4, h⟩ := bd1_some h
      obtain ⟨hi_4, ex_5⟩ := ga_some hi_4
      refine va_iald hx hb hK hP 4 0 rfl rfl hi_4 dX2_divide_31 ?_
      rw [← ex_5]
      refine lv_istore_n (lv' := [(3, .int x_3), (0, .ref aLinker), (1, .int p0), (2, .int p1)]) hx hb dX2_divide_32 rfl hl (by decide) rfl (fun ls hl => ?_)
      refine lv_aload_n hx hb dX2_divide_33 rfl (lv_at hl 1 rfl) ?_
      refine va_get (D := (dC, dI)) (ci := 2) (v := .ref aLinker_waiting) (C := RX2) (T := TX2) (N := 4) hx hb hts (fun w h => List.mem_cons_of_mem _ (inX2 w h)) hown hK hP 3 rfl rfl 1 (by decide) (hts _ (List.mem_cons_of_mem _ mw_22)) (fun _ h9 => h9) rfl dX2_divide_34 ?_
      refine lv_aload_n hx hb dX2_divide_37 rfl (lv_at hl 1 rfl) ?_
      refine va_get (D := (dC, dI)) (ci := 2) (v := .int Linker_open) (C := RX2) (T := TX2) (N := 4) hx hb hts (fun w h => List.mem_cons_of_mem _ (inX2 w h)) hown hK hP 3 rfl rfl 2 (by decide) (hts _ (List.mem_cons_of_mem _ mw_21)) (fun _ h9 => h9) rfl dX2_divide_38 ?_
      refine lv_iconst (v := (1 : Int32)) hx hb dX2_divide_41 (by decide) ?_
      refine lv_isub hx hb dX2_divide_42 ?_
      refine lv_iload_n hx hb dX2_divide_43 rfl (lv_at hl 2 rfl) ?_
      obtain ⟨f_6, hi_7, h⟩ := bd1_some h
      obtain ⟨hi_7, ex_8⟩ := sa_some hi_7
      refine va_iast hx hb hK hP hD hS 4 0 rfl rfl hi_7 dX2_divide_44 (fun H locs hP hD hS => ?_)
      rw [← ex_8] at hP hD
      have hP : va_P (dC, dI) vwCl [(aCode, .inr (0, [.ref aCode_ops, .ref aCode_args])), (aCode_ops, .inl (cI, 200, .inl Code_ops)), (aCode_args, .inl (cI, 200, .inl Code_args)), (aLinker, .inr (2, [.ref aCode, .ref aLinker_waiting, .int Linker_open, .int Linker_openLoops])), (aLinker_waiting, .inl (cI, 8, .inl f_6))] H := hP
      have hD : va_D A [(aCode, .inr (0, [.ref aCode_ops, .ref aCode_args])), (aCode_ops, .inl (cI, 200, .inl Code_ops)), (aCode_args, .inl (cI, 200, .inl Code_args)), (aLinker, .inr (2, [.ref aCode, .ref aLinker_waiting, .int Linker_open, .int Linker_openLoops])), (aLinker_waiting, .inl (cI, 8, .inl f_6))] := hD
      refine lv_iload_n hx hb dX2_divide_45 rfl (lv_at hl 3 rfl) ?_
      refine lv_bipush (v := (34 : Int32)) hx hb dX2_divide_46 (by decide) ?_
      refine lv_icmp_ne (tgt := 81) hx hb dX2_divide_48 (by decide) (fun c_9 => ?_) (fun c_9 => ?_)
      · have h := it_f c_9 h
        refine lv_aload_n hx hb dX2_divide_81 rfl (lv_at hl 1 rfl) ?_
        refine va_get (D := (dC, dI)) (ci := 2) (v := .ref aCode) (C := RX2) (T := TX2) (N := 4) hx hb hts (fun w h => List.mem_cons_of_mem _ (inX2 w h)) hown hK hP 3 rfl rfl 0 (by decide) (hts _ (List.mem_cons_of_mem _ mw_24)) (fun _ h9 => h9) rfl dX2_divide_82 ?_
        refine lv_iload_n hx hb dX2_divide_85 rfl (lv_at hl 2 rfl) ?_
        refine lv_iload_n hx hb dX2_divide_86 rfl (lv_at hl 0 rfl) ?_
        refine lv_iconst (v := (1 : Int32)) hx hb dX2_divide_87 (by decide) ?_
        refine lv_iadd hx hb dX2_divide_88 ?_
        obtain ⟨Code_args_10, hc_10, h⟩ := bd1_some h
        have hPc := hP.sub (ws' := [(aCode, .inr (0, [.ref aCode_ops, .ref aCode_args])), (aCode_args, .inl (cI, 200, .inl Code_args))]) [0, 2] rfl
        have hDc := hD.sub (ws' := [(aCode, .inr (0, [.ref aCode_ops, .ref aCode_args])), (aCode_args, .inl (cI, 200, .inl Code_args))]) [0, 2] (by decide) rfl
        have hFc := va_free (wc := [(aCode, .inr (0, [.ref aCode_ops, .ref aCode_args])), (aCode_args, .inl (cI, 200, .inl Code_args))]) hD hS hA [0, 2] rfl
        refine va_callv (va_runV (As := [.int p0, .int (x_3 + (1 : Int32))]) (rest := []) ⟨hx, hb, hml, hown, hts⟩ (ctX0_lead l dC dI cI cC cJ aCode aCode_ops aCode_args _ Code_args p0 (x_3 + (1 : Int32)) Code_args_10 hc_10) (cwV 2 hts (gV_ hc_ mw_25 mw_26 mw_27 mw_19 mw_28) rfl rfl rfl (by decide +kernel) ⟨Nat.le_of_ble_eq_true rfl, Nat.le_of_ble_eq_true rfl⟩) ⟨fun a U g mk q => by obtain ⟨q0, q1, qP, qK, qD⟩ := q; exact ⟨q0, q1, qP, va_K.moved (u := U) (U := U.calling g mk a) (Vm.Alike.refl U.vm) qK, qD⟩, va_recv hK hPc (ci := 0) (q0 := 0) rfl rfl, fun U hU hW => ⟨rfl, by rw [hU], by rw [hU]; exact hPc, va_K.moved hW.alike hK, hDc.weaken (fun _ _ _ _ => trivial)⟩⟩ rfl rfl hl.1 rfl (lv_room (Nat.le_of_ble_eq_true rfl)) dX2_divide_89 ⟨Nat.zero_le _, Nat.zero_le _⟩) hS (fun q _ h => hFc q h) hFc (fun u t H1 locs ht hvm hw hB hz1 hk1 hS => ?_)
        obtain ⟨hP1, hK1, hD1⟩ := hB
        rw [ht] at hP1
        obtain ⟨hP, hD⟩ := va_join (wr := [(aCode_ops, .inl (cI, 200, .inl Code_ops)), (aLinker, .inr (2, [.ref aCode, .ref aLinker_waiting, .int Linker_open, .int Linker_openLoops])), (aLinker_waiting, .inl (cI, 8, .inl f_6))]) (w1 := [(aCode, .inr (0, [.ref aCode_ops, .ref aCode_args])), (aCode_args, .inl (cI, 200, .inl Code_args_10))]) hP hD [0, 2] [1, 3, 4] rfl rfl (by decide) (by decide) hk1 hFc hP1 hD1
        generalize H1 = H at hP hS ⊢
        have hP : va_P (dC, dI) vwCl [(aCode_ops, .inl (cI, 200, .inl Code_ops)), (aLinker, .inr (2, [.ref aCode, .ref aLinker_waiting, .int Linker_open, .int Linker_openLoops])), (aLinker_waiting, .inl (cI, 8, .inl f_6)), (aCode, .inr (0, [.ref aCode_ops, .ref aCode_args])), (aCode_args, .inl (cI, 200, .inl Code_args_10))] H := hP
        have hD : va_D A [(aCode_ops, .inl (cI, 200, .inl Code_ops)), (aLinker, .inr (2, [.ref aCode, .ref aLinker_waiting, .int Linker_open, .int Linker_openLoops])), (aLinker_waiting, .inl (cI, 8, .inl f_6)), (aCode, .inr (0, [.ref aCode_ops, .ref aCode_args])), (aCode_args, .inl (cI, 200, .inl Code_args_10))] := hD
        refine lv_aload_n hx hb dX2_divide_92 rfl (lv_at hl 1 rfl) ?_
        refine va_get (D := (dC, dI)) (ci := 2) (v := .ref aCode) (C := RX2) (T := TX2) (N := 4) hx hb hts (fun w h => List.mem_cons_of_mem _ (inX2 w h)) hown hK hP 1 rfl rfl 0 (by decide) (hts _ (List.mem_cons_of_mem _ mw_24)) (fun _ h9 => h9) rfl dX2_divide_93 ?_
        refine lv_iload_n hx hb dX2_divide_96 rfl (lv_at hl 0 rfl) ?_
        obtain ⟨r_11, hc_11, h⟩ := bd1_some h
        have hPc := hP.sub (ws' := [(aCode, .inr (0, [.ref aCode_ops, .ref aCode_args])), (aCode_ops, .inl (cI, 200, .inl Code_ops))]) [3, 0] rfl
        have hDc := hD.sub (ws' := [(aCode, .inr (0, [.ref aCode_ops, .ref aCode_args])), (aCode_ops, .inl (cI, 200, .inl Code_ops))]) [3, 0] (by decide) rfl
        have hFc := va_free (wc := [(aCode, .inr (0, [.ref aCode_ops, .ref aCode_args])), (aCode_ops, .inl (cI, 200, .inl Code_ops))]) hD hS hA [3, 0] rfl
        refine va_calli (va_runV (As := [.int x_3]) (rest := []) ⟨hx, hb, hml, hown, hts⟩ (ctX0_opAt l dC dI cI cC cJ aCode aCode_ops aCode_args _ Code_ops x_3 r_11 hc_11) (cwV 1 hts (gV_ hc_ mw_29 mw_30 mw_31 mw_19 mw_32) rfl rfl rfl (by decide +kernel) ⟨Nat.le_of_ble_eq_true rfl, Nat.le_of_ble_eq_true rfl⟩) ⟨fun a U g mk q => by obtain ⟨q0, q1, qP, qK, qD⟩ := q; exact ⟨q0, q1, qP, va_K.moved (u := U) (U := U.calling g mk a) (Vm.Alike.refl U.vm) qK, qD⟩, va_recv hK hPc (ci := 0) (q0 := 0) rfl rfl, fun U hU hW => ⟨rfl, by rw [hU], by rw [hU]; exact hPc, va_K.moved hW.alike hK, hDc.weaken (fun _ _ _ _ => trivial)⟩⟩ rfl rfl hl.1 rfl (lv_room (Nat.le_of_ble_eq_true rfl)) dX2_divide_97 ⟨Nat.zero_le _, Nat.zero_le _⟩) hS (fun q _ h => hFc q h) hFc (fun r_11 u t H1 locs ht hvm hw hB hz1 hk1 hS => ?_)
        obtain ⟨hP1, hK1, hD1⟩ := hB
        rw [ht] at hP1
        subst hw
        obtain ⟨hP, hD⟩ := va_join (wr := [(aLinker, .inr (2, [.ref aCode, .ref aLinker_waiting, .int Linker_open, .int Linker_openLoops])), (aLinker_waiting, .inl (cI, 8, .inl f_6)), (aCode_args, .inl (cI, 200, .inl Code_args_10))]) (w1 := [(aCode, .inr (0, [.ref aCode_ops, .ref aCode_args])), (aCode_ops, .inl (cI, 200, .inl Code_ops))]) hP hD [3, 0] [1, 2, 4] rfl rfl (by decide) (by decide) hk1 hFc hP1 hD1
        generalize H1 = H at hP hS ⊢
        have hP : va_P (dC, dI) vwCl [(aLinker, .inr (2, [.ref aCode, .ref aLinker_waiting, .int Linker_open, .int Linker_openLoops])), (aLinker_waiting, .inl (cI, 8, .inl f_6)), (aCode_args, .inl (cI, 200, .inl Code_args_10)), (aCode, .inr (0, [.ref aCode_ops, .ref aCode_args])), (aCode_ops, .inl (cI, 200, .inl Code_ops))] H := hP
        have hD : va_D A [(aLinker, .inr (2, [.ref aCode, .ref aLinker_waiting, .int Linker_open, .int Linker_openLoops])), (aLinker_waiting, .inl (cI, 8, .inl f_6)), (aCode_args, .inl (cI, 200, .inl Code_args_10)), (aCode, .inr (0, [.ref aCode_ops, .ref aCode_args])), (aCode_ops, .inl (cI, 200, .inl Code_ops))] := hD
        refine lv_bipush (v := (36 : Int32)) hx hb dX2_divide_100 (by decide) ?_
        refine lv_icmp_ne (tgt := 109) hx hb dX2_divide_102 (by decide) (fun c_12 => ?_) (fun c_12 => ?_)
        · have h := it_f c_12 h
          refine lv_iconst (v := (0 : Int32)) hx hb dX2_divide_109 (by decide) ?_
          have hP := hP.sub (ws' := [(aCode, .inr (0, [.ref aCode_ops, .ref aCode_args])), (aCode_ops, .inl (cI, 200, .inl Code_ops)), (aCode_args, .inl (cI, 200, .inl Code_args_10)), (aLinker, .inr (2, [.ref aCode, .ref aLinker_waiting, .int Linker_open, .int Linker_openLoops])), (aLinker_waiting, .inl (cI, 8, .inl f_6))]) [3, 4, 2, 0, 1] rfl
          have hD := hD.sub (ws' := [(aCode, .inr (0, [.ref aCode_ops, .ref aCode_args])), (aCode_ops, .inl (cI, 200, .inl Code_ops)), (aCode_args, .inl (cI, 200, .inl Code_args_10)), (aLinker, .inr (2, [.ref aCode, .ref aLinker_waiting, .int Linker_open, .int Linker_openLoops])), (aLinker_waiting, .inl (cI, 8, .inl f_6))]) [3, 4, 2, 0, 1] (by decide) rfl
          cases h
          rw [hQ]
          exact W.zret (ty := .boolean) hx hb hr rfl (fun t ht hW => ⟨⟨_, (), rfl, rfl, by rw [ht]; exact hP, va_K.moved hW.alike hK, hD⟩, hS.F ht⟩) hS.2.2 dX2_divide_110
        · have h := it_t c_12 h
          refine lv_iconst (v := (1 : Int32)) hx hb dX2_divide_105 (by decide) ?_
          refine lv_goto (tgt := 110) hx hb dX2_divide_106 (by decide) ?_
          have hP := hP.sub (ws' := [(aCode, .inr (0, [.ref aCode_ops, .ref aCode_args])), (aCode_ops, .inl (cI, 200, .inl Code_ops)), (aCode_args, .inl (cI, 200, .inl Code_args_10)), (aLinker, .inr (2, [.ref aCode, .ref aLinker_waiting, .int Linker_open, .int Linker_openLoops])), (aLinker_waiting, .inl (cI, 8, .inl f_6))]) [3, 4, 2, 0, 1] rfl
          have hD := hD.sub (ws' := [(aCode, .inr (0, [.ref aCode_ops, .ref aCode_args])), (aCode_ops, .inl (cI, 200, .inl Code_ops)), (aCode_args, .inl (cI, 200, .inl Code_args_10)), (aLinker, .inr (2, [.ref aCode, .ref aLinker_waiting, .int Linker_open, .int Linker_openLoops])), (aLinker_waiting, .inl (cI, 8, .inl f_6))]) [3, 4, 2, 0, 1] (by decide) rfl
          cases h
          rw [hQ]
          exact W.zret (ty := .boolean) hx hb hr rfl (fun t ht hW => ⟨⟨_, (), rfl, rfl, by rw [ht]; exact hP, va_K.moved hW.alike hK, hD⟩, hS.F ht⟩) hS.2.2 dX2_divide_110
      · have h := it_t c_9 h
        refine lv_aload_n hx hb dX2_divide_51 rfl (lv_at hl 1 rfl) ?_
        refine va_get (D := (dC, dI)) (ci := 2) (v := .ref aCode) (C := RX2) (T := TX2) (N := 4) hx hb hts (fun w h => List.mem_cons_of_mem _ (inX2 w h)) hown hK hP 3 rfl rfl 0 (by decide) (hts _ (List.mem_cons_of_mem _ mw_24)) (fun _ h9 => h9) rfl dX2_divide_52 ?_
        refine lv_iload_n hx hb dX2_divide_55 rfl (lv_at hl 0 rfl) ?_
        refine lv_iload_n hx hb dX2_divide_56 rfl (lv_at hl 2 rfl) ?_
        refine lv_iconst (v := (1 : Int32)) hx hb dX2_divide_57 (by decide) ?_
        refine lv_iadd hx hb dX2_divide_58 ?_
        obtain ⟨Code_args_13, hc_13, h⟩ := bd1_some h
        have hPc := hP.sub (ws' := [(aCode, .inr (0, [.ref aCode_ops, .ref aCode_args])), (aCode_args, .inl (cI, 200, .inl Code_args))]) [0, 2] rfl
        have hDc := hD.sub (ws' := [(aCode, .inr (0, [.ref aCode_ops, .ref aCode_args])), (aCode_args, .inl (cI, 200, .inl Code_args))]) [0, 2] (by decide) rfl
        have hFc := va_free (wc := [(aCode, .inr (0, [.ref aCode_ops, .ref aCode_args])), (aCode_args, .inl (cI, 200, .inl Code_args))]) hD hS hA [0, 2] rfl
        refine va_callv (va_runV (As := [.int x_3, .int (p0 + (1 : Int32))]) (rest := []) ⟨hx, hb, hml, hown, hts⟩ (ctX0_lead l dC dI cI cC cJ aCode aCode_ops aCode_args _ Code_args x_3 (p0 + (1 : Int32)) Code_args_13 hc_13) (cwV 2 hts (gV_ hc_ mw_25 mw_26 mw_27 mw_19 mw_28) rfl rfl rfl (by decide +kernel) ⟨Nat.le_of_ble_eq_true rfl, Nat.le_of_ble_eq_true rfl⟩) ⟨fun a U g mk q => by obtain ⟨q0, q1, qP, qK, qD⟩ := q; exact ⟨q0, q1, qP, va_K.moved (u := U) (U := U.calling g mk a) (Vm.Alike.refl U.vm) qK, qD⟩, va_recv hK hPc (ci := 0) (q0 := 0) rfl rfl, fun U hU hW => ⟨rfl, by rw [hU], by rw [hU]; exact hPc, va_K.moved hW.alike hK, hDc.weaken (fun _ _ _ _ => trivial)⟩⟩ rfl rfl hl.1 rfl (lv_room (Nat.le_of_ble_eq_true rfl)) dX2_divide_59 ⟨Nat.zero_le _, Nat.zero_le _⟩) hS (fun q _ h => hFc q h) hFc (fun u t H1 locs ht hvm hw hB hz1 hk1 hS => ?_)
        obtain ⟨hP1, hK1, hD1⟩ := hB
        rw [ht] at hP1
        obtain ⟨hP, hD⟩ := va_join (wr := [(aCode_ops, .inl (cI, 200, .inl Code_ops)), (aLinker, .inr (2, [.ref aCode, .ref aLinker_waiting, .int Linker_open, .int Linker_openLoops])), (aLinker_waiting, .inl (cI, 8, .inl f_6))]) (w1 := [(aCode, .inr (0, [.ref aCode_ops, .ref aCode_args])), (aCode_args, .inl (cI, 200, .inl Code_args_13))]) hP hD [0, 2] [1, 3, 4] rfl rfl (by decide) (by decide) hk1 hFc hP1 hD1
        generalize H1 = H at hP hS ⊢
        have hP : va_P (dC, dI) vwCl [(aCode_ops, .inl (cI, 200, .inl Code_ops)), (aLinker, .inr (2, [.ref aCode, .ref aLinker_waiting, .int Linker_open, .int Linker_openLoops])), (aLinker_waiting, .inl (cI, 8, .inl f_6)), (aCode, .inr (0, [.ref aCode_ops, .ref aCode_args])), (aCode_args, .inl (cI, 200, .inl Code_args_13))] H := hP
        have hD : va_D A [(aCode_ops, .inl (cI, 200, .inl Code_ops)), (aLinker, .inr (2, [.ref aCode, .ref aLinker_waiting, .int Linker_open, .int Linker_openLoops])), (aLinker_waiting, .inl (cI, 8, .inl f_6)), (aCode, .inr (0, [.ref aCode_ops, .ref aCode_args])), (aCode_args, .inl (cI, 200, .inl Code_args_13))] := hD
        refine lv_aload_n hx hb dX2_divide_62 rfl (lv_at hl 1 rfl) ?_
        refine va_get (D := (dC, dI)) (ci := 2) (v := .ref aCode) (C := RX2) (T := TX2) (N := 4) hx hb hts (fun w h => List.mem_cons_of_mem _ (inX2 w h)) hown hK hP 1 rfl rfl 0 (by decide) (hts _ (List.mem_cons_of_mem _ mw_24)) (fun _ h9 => h9) rfl dX2_divide_63 ?_
        refine lv_iload_n hx hb dX2_divide_66 rfl (lv_at hl 0 rfl) ?_
        obtain ⟨r_14, hc_14, h⟩ := bd1_some h
        have hPc := hP.sub (ws' := [(aCode, .inr (0, [.ref aCode_ops, .ref aCode_args])), (aCode_ops, .inl (cI, 200, .inl Code_ops))]) [3, 0] rfl
        have hDc := hD.sub (ws' := [(aCode, .inr (0, [.ref aCode_ops, .ref aCode_args])), (aCode_ops, .inl (cI, 200, .inl Code_ops))]) [3, 0] (by decide) rfl
        have hFc := va_free (wc := [(aCode, .inr (0, [.ref aCode_ops, .ref aCode_args])), (aCode_ops, .inl (cI, 200, .inl Code_ops))]) hD hS hA [3, 0] rfl
        refine va_calli (va_runV (As := [.int x_3]) (rest := []) ⟨hx, hb, hml, hown, hts⟩ (ctX0_opAt l dC dI cI cC cJ aCode aCode_ops aCode_args _ Code_ops x_3 r_14 hc_14) (cwV 1 hts (gV_ hc_ mw_29 mw_30 mw_31 mw_19 mw_32) rfl rfl rfl (by decide +kernel) ⟨Nat.le_of_ble_eq_true rfl, Nat.le_of_ble_eq_true rfl⟩) ⟨fun a U g mk q => by obtain ⟨q0, q1, qP, qK, qD⟩ := q; exact ⟨q0, q1, qP, va_K.moved (u := U) (U := U.calling g mk a) (Vm.Alike.refl U.vm) qK, qD⟩, va_recv hK hPc (ci := 0) (q0 := 0) rfl rfl, fun U hU hW => ⟨rfl, by rw [hU], by rw [hU]; exact hPc, va_K.moved hW.alike hK, hDc.weaken (fun _ _ _ _ => trivial)⟩⟩ rfl rfl hl.1 rfl (lv_room (Nat.le_of_ble_eq_true rfl)) dX2_divide_67 ⟨Nat.zero_le _, Nat.zero_le _⟩) hS (fun q _ h => hFc q h) hFc (fun r_14 u t H1 locs ht hvm hw hB hz1 hk1 hS => ?_)
        obtain ⟨hP1, hK1, hD1⟩ := hB
        rw [ht] at hP1
        subst hw
        obtain ⟨hP, hD⟩ := va_join (wr := [(aLinker, .inr (2, [.ref aCode, .ref aLinker_waiting, .int Linker_open, .int Linker_openLoops])), (aLinker_waiting, .inl (cI, 8, .inl f_6)), (aCode_args, .inl (cI, 200, .inl Code_args_13))]) (w1 := [(aCode, .inr (0, [.ref aCode_ops, .ref aCode_args])), (aCode_ops, .inl (cI, 200, .inl Code_ops))]) hP hD [3, 0] [1, 2, 4] rfl rfl (by decide) (by decide) hk1 hFc hP1 hD1
        generalize H1 = H at hP hS ⊢
        have hP : va_P (dC, dI) vwCl [(aLinker, .inr (2, [.ref aCode, .ref aLinker_waiting, .int Linker_open, .int Linker_openLoops])), (aLinker_waiting, .inl (cI, 8, .inl f_6)), (aCode_args, .inl (cI, 200, .inl Code_args_13)), (aCode, .inr (0, [.ref aCode_ops, .ref aCode_args])), (aCode_ops, .inl (cI, 200, .inl Code_ops))] H := hP
        have hD : va_D A [(aLinker, .inr (2, [.ref aCode, .ref aLinker_waiting, .int Linker_open, .int Linker_openLoops])), (aLinker_waiting, .inl (cI, 8, .inl f_6)), (aCode_args, .inl (cI, 200, .inl Code_args_13)), (aCode, .inr (0, [.ref aCode_ops, .ref aCode_args])), (aCode_ops, .inl (cI, 200, .inl Code_ops))] := hD
        refine lv_bipush (v := (33 : Int32)) hx hb dX2_divide_70 (by decide) ?_
        refine lv_icmp_ne (tgt := 79) hx hb dX2_divide_72 (by decide) (fun c_15 => ?_) (fun c_15 => ?_)
        · have h := it_f c_15 h
          refine lv_iconst (v := (0 : Int32)) hx hb dX2_divide_79 (by decide) ?_
          have hP := hP.sub (ws' := [(aCode, .inr (0, [.ref aCode_ops, .ref aCode_args])), (aCode_ops, .inl (cI, 200, .inl Code_ops)), (aCode_args, .inl (cI, 200, .inl Code_args_13)), (aLinker, .inr (2, [.ref aCode, .ref aLinker_waiting, .int Linker_open, .int Linker_openLoops])), (aLinker_waiting, .inl (cI, 8, .inl f_6))]) [3, 4, 2, 0, 1] rfl
          have hD := hD.sub (ws' := [(aCode, .inr (0, [.ref aCode_ops, .ref aCode_args])), (aCode_ops, .inl (cI, 200, .inl Code_ops)), (aCode_args, .inl (cI, 200, .inl Code_args_13)), (aLinker, .inr (2, [.ref aCode, .ref aLinker_waiting, .int Linker_open, .int Linker_openLoops])), (aLinker_waiting, .inl (cI, 8, .inl f_6))]) [3, 4, 2, 0, 1] (by decide) rfl
          cases h
          rw [hQ]
          exact W.zret (ty := .boolean) hx hb hr rfl (fun t ht hW => ⟨⟨_, (), rfl, rfl, by rw [ht]; exact hP, va_K.moved hW.alike hK, hD⟩, hS.F ht⟩) hS.2.2 dX2_divide_80
        · have h := it_t c_15 h
          refine lv_iconst (v := (1 : Int32)) hx hb dX2_divide_75 (by decide) ?_
          refine lv_goto (tgt := 80) hx hb dX2_divide_76 (by decide) ?_
          have hP := hP.sub (ws' := [(aCode, .inr (0, [.ref aCode_ops, .ref aCode_args])), (aCode_ops, .inl (cI, 200, .inl Code_ops)), (aCode_args, .inl (cI, 200, .inl Code_args_13)), (aLinker, .inr (2, [.ref aCode, .ref aLinker_waiting, .int Linker_open, .int Linker_openLoops])), (aLinker_waiting, .inl (cI, 8, .inl f_6))]) [3, 4, 2, 0, 1] rfl
          have hD := hD.sub (ws' := [(aCode, .inr (0, [.ref aCode_ops, .ref aCode_args])), (aCode_ops, .inl (cI, 200, .inl Code_ops)), (aCode_args, .inl (cI, 200, .inl Code_args_13)), (aLinker, .inr (2, [.ref aCode, .ref aLinker_waiting, .int Linker_open, .int Linker_openLoops])), (aLinker_waiting, .inl (cI, 8, .inl f_6))]) [3, 4, 2, 0, 1] (by decide) rfl
          cases h
          rw [hQ]
          exact W.zret (ty := .boolean) hx hb hr rfl (fun t ht hW => ⟨⟨_, (), rfl, rfl, by rw [ht]; exact hP, va_K.moved hW.alike hK, hD⟩, hS.F ht⟩) hS.2.2 dX2_divide_80
    · have h := it_f c_2 h
      refine lv_iconst (v := (0 : Int32)) hx hb dX2_divide_19 (by decide) ?_
      cases h
      rw [hQ]
      exact W.zret (ty := .boolean) hx hb hr rfl (fun t ht hW => ⟨⟨_, (), rfl, rfl, by rw [ht]; exact hP, va_K.moved hW.alike hK, hD⟩, hS.F ht⟩) hS.2.2 dX2_divide_20
abbrev rmX2_close : Room := { frames := 1, cells := 0, slots := 0, locals := 22 }
set_option maxHeartbeats 4000000 in
set_option maxRecDepth 100000 in
theorem ctX2_close (l : Launch) (dC : Nat → ClassId) (dI : Nat → Nat → Nat) (cI cC cJ : ClassId) (aCode aCode_ops aCode_args aLinker aLinker_waiting : Nat) (sz : Nat) (Code_ops : Nat → Int32) (Code_args : Nat → Int32) (Linker_waiting : Nat → Int32) (Linker_open : Int32) (Linker_openLoops : Int32) (p0 : Int32) (p1 : Int32) (rr : Int32) (w_Code_args : Nat → Int32) (w_Linker_open : Int32) (w_Linker_openLoops : Int32) (h : fnX2_close Code_ops Code_args Linker_waiting Linker_open Linker_openLoops p0 p1 = some (rr, w_Code_args, w_Linker_open, w_Linker_openLoops)) : Met l yX2_close wsX2_close rmX2_close (va_Pc [.ref aLinker, .int p0, .int p1] (fun U => U.heap.size = sz ∧ va_P (dC, dI) vwCl [(aCode, .inr (0, [.ref aCode_ops, .ref aCode_args])), (aCode_ops, .inl (cI, 200, .inl Code_ops)), (aCode_args, .inl (cI, 200, .inl Code_args)), (aLinker, .inr (2, [.ref aCode, .ref aLinker_waiting, .int Linker_open, .int Linker_openLoops])), (aLinker_waiting, .inl (cI, 8, .inl Linker_waiting))] U.heap ∧ va_K (dC, dI) vwCl [(cI, .int), (cC, .char), (cJ, .long)] U ∧ va_D (fun _ => True) [(aCode, .inr (0, [.ref aCode_ops, .ref aCode_args])), (aCode_ops, .inl (cI, 200, .inl Code_ops)), (aCode_args, .inl (cI, 200, .inl Code_args)), (aLinker, .inr (2, [.ref aCode, .ref aLinker_waiting, .int Linker_open, .int Linker_openLoops])), (aLinker_waiting, .inl (cI, 8, .inl Linker_waiting))])) (va_Qi (fun r (_ : Unit) => r = rr) (fun _ t => va_P (dC, dI) vwCl [(aCode, .inr (0, [.ref aCode_ops, .ref aCode_args])), (aCode_ops, .inl (cI, 200, .inl Code_ops)), (aCode_args, .inl (cI, 200, .inl w_Code_args)), (aLinker, .inr (2, [.ref aCode, .ref aLinker_waiting, .int w_Linker_open, .int w_Linker_openLoops])), (aLinker_waiting, .inl (cI, 8, .inl Linker_waiting))] t.heap ∧ va_K (dC, dI) vwCl [(cI, .int), (cC, .char), (cJ, .long)] t ∧ va_D (va_A [(aCode, .inr (0, [.ref aCode_ops, .ref aCode_args])), (aCode_ops, .inl (cI, 200, .inl Code_ops)), (aCode_args, .inl (cI, 200, .inl Code_args)), (aLinker, .inr (2, [.ref aCode, .ref aLinker_waiting, .int Linker_open, .int Linker_openLoops])), (aLinker_waiting, .inl (cI, 8, .inl Linker_waiting))] sz) [(aCode, .inr (0, [.ref aCode_ops, .ref aCode_args])), (aCode_ops, .inl (cI, 200, .inl Code_ops)), (aCode_args, .inl (cI, 200, .inl w_Code_args)), (aLinker, .inr (2, [.ref aCode, .ref aLinker_waiting, .int w_Linker_open, .int w_Linker_openLoops])), (aLinker_waiting, .inl (cI, 8, .inl Linker_waiting))]) (va_A [(aCode, .inr (0, [.ref aCode_ops, .ref aCode_args])), (aCode_ops, .inl (cI, 200, .inl Code_ops)), (aCode_args, .inl (cI, 200, .inl Code_args)), (aLinker, .inr (2, [.ref aCode, .ref aLinker_waiting, .int Linker_open, .int Linker_openLoops])), (aLinker_waiting, .inl (cI, 8, .inl Linker_waiting))] sz)) 0 0 (va_A [(aCode, .inr (0, [.ref aCode_ops, .ref aCode_args])), (aCode_ops, .inl (cI, 200, .inl Code_ops)), (aCode_args, .inl (cI, 200, .inl Code_args)), (aLinker, .inr (2, [.ref aCode, .ref aLinker_waiting, .int Linker_open, .int Linker_openLoops])), (aLinker_waiting, .inl (cI, 8, .inl Linker_waiting))] sz) := by
  refine Met.ofW (cc := cX2_close) (maxL := 5) (ret := (some .boolean)) (by decide) rfl ?_
  intro p e s m args below meth c s₁ B hml hv
  obtain ⟨hargs, hsz, hP, hK, hD0⟩ := hv
  have hx := B.exec
  have hb := B.bytes
  have hr := B.returns
  have hts := atoms_spec (ws := wsX2_close) B.pre
  have hown : s.vm.findClass RX2 = some m.cls := findClass_of_methodNamed B.named
  have hlocks := B.notSynchronized
  subst hsz
  have hD := hD0.self (sz := s.heap.size)
  generalize hAe : va_A [(aCode, .inr (0, [.ref aCode_ops, .ref aCode_args])), (aCode_ops, .inl (cI, 200, .inl Code_ops)), (aCode_args, .inl (cI, 200, .inl Code_args)), (aLinker, .inr (2, [.ref aCode, .ref aLinker_waiting, .int Linker_open, .int Linker_openLoops])), (aLinker_waiting, .inl (cI, 8, .inl Linker_waiting))] s.heap.size = A at hD ⊢
  have hA : ∀ q : Nat, s.heap.size ≤ q → A q := fun q h => by rw [← hAe]; exact Or.inr h
  have hS : va_S A s.heap s.heap [] := va_S.rf
  have hl := lv_entry ([.ref aLinker, .int p0, .int p1]) (n := 5) (Nat.le_of_ble_eq_true rfl)
  have hfr : entryFrame m args 5 = entryFrame m ([.ref aLinker, .int p0, .int p1] : List Value).toArray 5 := by rw [hargs]
  rw [hfr, lg_entry_eq]
  generalize (lg_sl ([.ref aLinker, .int p0, .int p1]) ++ List.replicate (5 - (lg_sl ([.ref aLinker, .int p0, .int p1])).length) Slot.unset).toArray = ls at hl ⊢
  have hl : lv_has ls 5 [(0, .ref aLinker), (1, .int p0), (2, .int p1)] := hl
  refine nameQ_ (fun Q hQ => ?_)
  unfold fnX2_close at h
  refine lv_aload_n hx hb dX2_close_0 rfl (lv_at hl 0 rfl) ?_
  refine va_get (D := (dC, dI)) (ci := 2) (v := .int Linker_open) (C := RX2) (T := TX2) (N := 4) hx hb hts (fun w h => List.mem_cons_of_mem _ (inX2 w h)) hown hK hP 3 rfl rfl 2 (by decide) (hts _ (List.mem_cons_of_mem _ mw_21)) (fun _ h9 => h9) rfl dX2_close_1 ?_
  refine lv_if_le (tgt := 19) hx hb dX2_close_4 (by decide) (fun c_1 => ?_) (fun c_1 => ?_)
  · have h := it_t c_1 h
    refine lv_iconst (v := (0 : Int32)) hx hb dX2_close_19 (by decide) ?_
    cases h
    rw [hQ]
    exact W.zret (ty := .boolean) hx hb hr rfl (fun t ht hW => ⟨⟨_, (), rfl, rfl, by rw [ht]; exact hP, va_K.moved hW.alike hK, hD⟩, hS.F ht⟩) hS.2.2 dX2_close_20
  · have h := it_f c_1 h
    refine lv_aload_n hx hb dX2_close_7 rfl (lv_at hl 0 rfl) ?_
    refine va_get (D := (dC, dI)) (ci := 2) (v := .int Linker_open) (C := RX2) (T := TX2) (N := 4) hx hb hts (fun w h => List.mem_cons_of_mem _ (inX2 w h)) hown hK hP 3 rfl rfl 2 (by decide) (hts _ (List.mem_cons_of_mem _ mw_21)) (fun _ h9 => h9) rfl dX2_close_8 ?_
    refine lv_aload_n hx hb dX2_close_11 rfl (lv_at hl 0 rfl) ?_
    refine va_get (D := (dC, dI)) (ci := 2) (v := .ref aLinker_waiting) (C := RX2) (T := TX2) (N := 4) hx hb hts (fun w h => List.mem_cons_of_mem _ (inX2 w h)) hown hK hP 3 rfl rfl 1 (by decide) (hts _ (List.mem_cons_of_mem _ mw_22)) (fun _ h9 => h9) rfl dX2_close_12 ?_
    refine va_alen hx hb hK hP 4 0 rfl rfl (v := (8 : Int32)) rfl dX2_close_15 ?_
    refine lv_icmp_le (tgt := 21) hx hb dX2_close_16 (by decide) (fun c_2 => ?_) (fun c_2 => ?_)
    · have h := it_t c_2 h
      refine lv_aload_n hx hb dX2_close_21 rfl (lv_at hl 0 rfl) ?_
      refine lv_dup hx hb dX2_close_22 rfl ?_
      refine va_get (D := (dC, dI)) (ci := 2) (v := .int Linker_open) (C := RX2) (T := TX2) (N := 4) hx hb hts (fun w h => List.mem_cons_of_mem _ (inX2 w h)) hown hK hP 3 rfl rfl 2 (by decide) (hts _ (List.mem_cons_of_mem _ mw_21)) (fun _ h9 => h9) rfl dX2_close_23 ?_
      refine lv_iconst (v := (1 : Int32)) hx hb dX2_close_26 (by decide) ?_
      refine lv_isub hx hb dX2_close_27 ?_
      refine va_put (D := (dC, dI)) (ci := 2) (v := .int (Linker_open - (1 : Int32))) (ty := .int) (C := RX2) (T := TX2) (N := 4) hx hb hts (fun w h => List.mem_cons_of_mem _ (inX2 w h)) tyX2 tyX2_ok nmX2 hown hK hP hD hS 3 rfl rfl 2 (by decide) (hts _ (List.mem_cons_of_mem _ mw_21)) (fun _ h9 => h9) rfl (by decide +kernel) rfl rfl (Nat.le_of_ble_eq_true rfl) dX2_close_28 (fun H locs hP hD hS => ?_)
      have hP : va_P (dC, dI) vwCl [(aCode, .inr (0, [.ref aCode_ops, .ref aCode_args])), (aCode_ops, .inl (cI, 200, .inl Code_ops)), (aCode_args, .inl (cI, 200, .inl Code_args)), (aLinker, .inr (2, [.ref aCode, .ref aLinker_waiting, .int (Linker_open - (1 : Int32)), .int Linker_openLoops])), (aLinker_waiting, .inl (cI, 8, .inl Linker_waiting))] H := hP
      have hD : va_D A [(aCode, .inr (0, [.ref aCode_ops, .ref aCode_args])), (aCode_ops, .inl (cI, 200, .inl Code_ops)), (aCode_args, .inl (cI, 200, .inl Code_args)), (aLinker, .inr (2, [.ref aCode, .ref aLinker_waiting, .int (Linker_open - (1 : Int32)), .int Linker_openLoops])), (aLinker_waiting, .inl (cI, 8, .inl Linker_waiting))] := hD
      refine lv_aload_n hx hb dX2_close_31 rfl (lv_at hl 0 rfl) ?_
      refine va_get (D := (dC, dI)) (ci := 2) (v := .ref aLinker_waiting) (C := RX2) (T := TX2) (N := 4) hx hb hts (fun w h => List.mem_cons_of_mem _ (inX2 w h)) hown hK hP 3 rfl rfl 1 (by decide) (hts _ (List.mem_cons_of_mem _ mw_22)) (fun _ h9 => h9) rfl dX2_close_32 ?_
      refine lv_aload_n hx hb dX2_close_35 rfl (lv_at hl 0 rfl) ?_
      refine va_get (D := (dC, dI)) (ci := 2) (v := .int (Linker_open - (1 : Int32))) (C := RX2) (T := TX2) (N := 4) hx hb hts (fun w h => List.mem_cons_of_mem _ (inX2 w h)) hown hK hP 3 rfl rfl 2 (by decide) (hts _ (List.mem_cons_of_mem _ mw_21)) (fun _ h9 => h9) rfl dX2_close_36 ?_
      obtain ⟨x_3, hi_4, h⟩ := bd1_some h
      obtain ⟨hi_4, ex_5⟩ := ga_some hi_4
      refine va_iald hx hb hK hP 4 0 rfl rfl hi_4 dX2_close_39 ?_
      rw [← ex_5]
      refine lv_istore_n (lv' := [(3, .int x_3), (0, .ref aLinker), (1, .int p0), (2, .int p1)]) hx hb dX2_close_40 rfl hl (by decide) rfl (fun ls hl => ?_)
      refine lv_aload_n hx hb dX2_close_41 rfl (lv_at hl 1 rfl) ?_
      refine va_get (D := (dC, dI)) (ci := 2) (v := .ref aCode) (C := RX2) (T := TX2) (N := 4) hx hb hts (fun w h => List.mem_cons_of_mem _ (inX2 w h)) hown hK hP 3 rfl rfl 0 (by decide) (hts _ (List.mem_cons_of_mem _ mw_24)) (fun _ h9 => h9) rfl dX2_close_42 ?_
      refine lv_iload_n hx hb dX2_close_45 rfl (lv_at hl 0 rfl) ?_
      obtain ⟨r_6, hc_6, h⟩ := bd1_some h
      have hPc := hP.sub (ws' := [(aCode, .inr (0, [.ref aCode_ops, .ref aCode_args])), (aCode_ops, .inl (cI, 200, .inl Code_ops))]) [0, 1] rfl
      have hDc := hD.sub (ws' := [(aCode, .inr (0, [.ref aCode_ops, .ref aCode_args])), (aCode_ops, .inl (cI, 200, .inl Code_ops))]) [0, 1] (by decide) rfl
      have hFc := va_free (wc := [(aCode, .inr (0, [.ref aCode_ops, .ref aCode_args])), (aCode_ops, .inl (cI, 200, .inl Code_ops))]) hD hS hA [0, 1] rfl
      refine va_calli (va_runV (As := [.int x_3]) (rest := []) ⟨hx, hb, hml, hown, hts⟩ (ctX0_opAt l dC dI cI cC cJ aCode aCode_ops aCode_args _ Code_ops x_3 r_6 hc_6) (cwV 1 hts (gV_ hc_ mw_29 mw_30 mw_31 mw_19 mw_32) rfl rfl rfl (by decide +kernel) ⟨Nat.le_of_ble_eq_true rfl, Nat.le_of_ble_eq_true rfl⟩) ⟨fun a U g mk q => by obtain ⟨q0, q1, qP, qK, qD⟩ := q; exact ⟨q0, q1, qP, va_K.moved (u := U) (U := U.calling g mk a) (Vm.Alike.refl U.vm) qK, qD⟩, va_recv hK hPc (ci := 0) (q0 := 0) rfl rfl, fun U hU hW => ⟨rfl, by rw [hU], by rw [hU]; exact hPc, va_K.moved hW.alike hK, hDc.weaken (fun _ _ _ _ => trivial)⟩⟩ rfl rfl hl.1 rfl (lv_room (Nat.le_of_ble_eq_true rfl)) dX2_close_46 ⟨Nat.zero_le _, Nat.zero_le _⟩) hS (fun q _ h => hFc q h) hFc (fun r_6 u t H1 locs ht hvm hw hB hz1 hk1 hS => ?_)
      obtain ⟨hP1, hK1, hD1⟩ := hB
      rw [ht] at hP1
      subst hw
      obtain ⟨hP, hD⟩ := va_join (wr := [(aCode_args, .inl (cI, 200, .inl Code_args)), (aLinker, .inr (2, [.ref aCode, .ref aLinker_waiting, .int (Linker_open - (1 : Int32)), .int Linker_openLoops])), (aLinker_waiting, .inl (cI, 8, .inl Linker_waiting))]) (w1 := [(aCode, .inr (0, [.ref aCode_ops, .ref aCode_args])), (aCode_ops, .inl (cI, 200, .inl Code_ops))]) hP hD [0, 1] [2, 3, 4] rfl rfl (by decide) (by decide) hk1 hFc hP1 hD1
      generalize H1 = H at hP hS ⊢
      have hP : va_P (dC, dI) vwCl [(aCode_args, .inl (cI, 200, .inl Code_args)), (aLinker, .inr (2, [.ref aCode, .ref aLinker_waiting, .int (Linker_open - (1 : Int32)), .int Linker_openLoops])), (aLinker_waiting, .inl (cI, 8, .inl Linker_waiting)), (aCode, .inr (0, [.ref aCode_ops, .ref aCode_args])), (aCode_ops, .inl (cI, 200, .inl Code_ops))] H := hP
      have hD : va_D A [(aCode_args, .inl (cI, 200, .inl Code_args)), (aLinker, .inr (2, [.ref aCode, .ref aLinker_waiting, .int (Linker_open - (1 : Int32)), .int Linker_openLoops])), (aLinker_waiting, .inl (cI, 8, .inl Linker_waiting)), (aCode, .inr (0, [.ref aCode_ops, .ref aCode_args])), (aCode_ops, .inl (cI, 200, .inl Code_ops))] := hD
      refine lv_istore (lv' := [(4, .int r_6), (3, .int x_3), (0, .ref aLinker), (1, .int p0), (2, .int p1)]) hx hb dX2_close_49 hl (by decide) rfl (fun ls hl => ?_)
      refine lv_iload_n hx hb dX2_close_51 rfl (lv_at hl 4 rfl) ?_
      by_cases c_7 : p1 = (35 : Int32)
      · have h := it_t c_7 h
        refine lv_lookup (tgt := 88) (off := 36) hx hb dX2_close_52 (by decide) (by rw [c_7]; decide) (by decide) ?_
        refine lv_aload_n hx hb dX2_close_88 rfl (lv_at hl 2 rfl) ?_
        refine va_get (D := (dC, dI)) (ci := 2) (v := .ref aCode) (C := RX2) (T := TX2) (N := 4) hx hb hts (fun w h => List.mem_cons_of_mem _ (inX2 w h)) hown hK hP 1 rfl rfl 0 (by decide) (hts _ (List.mem_cons_of_mem _ mw_24)) (fun _ h9 => h9) rfl dX2_close_89 ?_
        refine lv_iload_n hx hb dX2_close_92 rfl (lv_at hl 1 rfl) ?_
        refine lv_iload_n hx hb dX2_close_93 rfl (lv_at hl 3 rfl) ?_
        refine lv_iconst (v := (1 : Int32)) hx hb dX2_close_94 (by decide) ?_
        refine lv_iadd hx hb dX2_close_95 ?_
        obtain ⟨Code_args_8, hc_8, h⟩ := bd1_some h
        have hPc := hP.sub (ws' := [(aCode, .inr (0, [.ref aCode_ops, .ref aCode_args])), (aCode_args, .inl (cI, 200, .inl Code_args))]) [3, 0] rfl
        have hDc := hD.sub (ws' := [(aCode, .inr (0, [.ref aCode_ops, .ref aCode_args])), (aCode_args, .inl (cI, 200, .inl Code_args))]) [3, 0] (by decide) rfl
        have hFc := va_free (wc := [(aCode, .inr (0, [.ref aCode_ops, .ref aCode_args])), (aCode_args, .inl (cI, 200, .inl Code_args))]) hD hS hA [3, 0] rfl
        refine va_callv (va_runV (As := [.int x_3, .int (p0 + (1 : Int32))]) (rest := []) ⟨hx, hb, hml, hown, hts⟩ (ctX0_lead l dC dI cI cC cJ aCode aCode_ops aCode_args _ Code_args x_3 (p0 + (1 : Int32)) Code_args_8 hc_8) (cwV 2 hts (gV_ hc_ mw_25 mw_26 mw_27 mw_19 mw_28) rfl rfl rfl (by decide +kernel) ⟨Nat.le_of_ble_eq_true rfl, Nat.le_of_ble_eq_true rfl⟩) ⟨fun a U g mk q => by obtain ⟨q0, q1, qP, qK, qD⟩ := q; exact ⟨q0, q1, qP, va_K.moved (u := U) (U := U.calling g mk a) (Vm.Alike.refl U.vm) qK, qD⟩, va_recv hK hPc (ci := 0) (q0 := 0) rfl rfl, fun U hU hW => ⟨rfl, by rw [hU], by rw [hU]; exact hPc, va_K.moved hW.alike hK, hDc.weaken (fun _ _ _ _ => trivial)⟩⟩ rfl rfl hl.1 rfl (lv_room (Nat.le_of_ble_eq_true rfl)) dX2_close_96 ⟨Nat.zero_le _, Nat.zero_le _⟩) hS (fun q _ h => hFc q h) hFc (fun u t H1 locs ht hvm hw hB hz1 hk1 hS => ?_)
        obtain ⟨hP1, hK1, hD1⟩ := hB
        rw [ht] at hP1
        obtain ⟨hP, hD⟩ := va_join (wr := [(aLinker, .inr (2, [.ref aCode, .ref aLinker_waiting, .int (Linker_open - (1 : Int32)), .int Linker_openLoops])), (aLinker_waiting, .inl (cI, 8, .inl Linker_waiting)), (aCode_ops, .inl (cI, 200, .inl Code_ops))]) (w1 := [(aCode, .inr (0, [.ref aCode_ops, .ref aCode_args])), (aCode_args, .inl (cI, 200, .inl Code_args_8))]) hP hD [3, 0] [1, 2, 4] rfl rfl (by decide) (by decide) hk1 hFc hP1 hD1
        generalize H1 = H at hP hS ⊢
        have hP : va_P (dC, dI) vwCl [(aLinker, .inr (2, [.ref aCode, .ref aLinker_waiting, .int (Linker_open - (1 : Int32)), .int Linker_openLoops])), (aLinker_waiting, .inl (cI, 8, .inl Linker_waiting)), (aCode_ops, .inl (cI, 200, .inl Code_ops)), (aCode, .inr (0, [.ref aCode_ops, .ref aCode_args])), (aCode_args, .inl (cI, 200, .inl Code_args_8))] H := hP
        have hD : va_D A [(aLinker, .inr (2, [.ref aCode, .ref aLinker_waiting, .int (Linker_open - (1 : Int32)), .int Linker_openLoops])), (aLinker_waiting, .inl (cI, 8, .inl Linker_waiting)), (aCode_ops, .inl (cI, 200, .inl Code_ops)), (aCode, .inr (0, [.ref aCode_ops, .ref aCode_args])), (aCode_args, .inl (cI, 200, .inl Code_args_8))] := hD
        refine lv_iload hx hb dX2_close_99 (lv_at hl 0 rfl) ?_
        refine lv_bipush (v := (33 : Int32)) hx hb dX2_close_101 (by decide) ?_
        refine lv_icmp_eq (tgt := 113) hx hb dX2_close_103 (by decide) (fun c_9 => ?_) (fun c_9 => ?_)
        · have h := it_t c_9 h
          refine lv_iconst (v := (1 : Int32)) hx hb dX2_close_113 (by decide) ?_
          refine lv_goto (tgt := 118) hx hb dX2_close_114 (by decide) ?_
          have hP := hP.sub (ws' := [(aCode, .inr (0, [.ref aCode_ops, .ref aCode_args])), (aCode_ops, .inl (cI, 200, .inl Code_ops)), (aCode_args, .inl (cI, 200, .inl Code_args_8)), (aLinker, .inr (2, [.ref aCode, .ref aLinker_waiting, .int (Linker_open - (1 : Int32)), .int Linker_openLoops])), (aLinker_waiting, .inl (cI, 8, .inl Linker_waiting))]) [3, 2, 4, 0, 1] rfl
          have hD := hD.sub (ws' := [(aCode, .inr (0, [.ref aCode_ops, .ref aCode_args])), (aCode_ops, .inl (cI, 200, .inl Code_ops)), (aCode_args, .inl (cI, 200, .inl Code_args_8)), (aLinker, .inr (2, [.ref aCode, .ref aLinker_waiting, .int (Linker_open - (1 : Int32)), .int Linker_openLoops])), (aLinker_waiting, .inl (cI, 8, .inl Linker_waiting))]) [3, 2, 4, 0, 1] (by decide) rfl
          cases h
          rw [hQ]
          exact W.zret (ty := .boolean) hx hb hr rfl (fun t ht hW => ⟨⟨_, (), rfl, rfl, by rw [ht]; exact hP, va_K.moved hW.alike hK, hD⟩, hS.F ht⟩) hS.2.2 dX2_close_118
        · have h := it_f c_9 h
          refine lv_iload hx hb dX2_close_106 (lv_at hl 0 rfl) ?_
          refine lv_bipush (v := (34 : Int32)) hx hb dX2_close_108 (by decide) ?_
          refine lv_icmp_ne (tgt := 117) hx hb dX2_close_110 (by decide) (fun c_10 => ?_) (fun c_10 => ?_)
          · have h := it_f c_10 h
            refine lv_iconst (v := (0 : Int32)) hx hb dX2_close_117 (by decide) ?_
            have hP := hP.sub (ws' := [(aCode, .inr (0, [.ref aCode_ops, .ref aCode_args])), (aCode_ops, .inl (cI, 200, .inl Code_ops)), (aCode_args, .inl (cI, 200, .inl Code_args_8)), (aLinker, .inr (2, [.ref aCode, .ref aLinker_waiting, .int (Linker_open - (1 : Int32)), .int Linker_openLoops])), (aLinker_waiting, .inl (cI, 8, .inl Linker_waiting))]) [3, 2, 4, 0, 1] rfl
            have hD := hD.sub (ws' := [(aCode, .inr (0, [.ref aCode_ops, .ref aCode_args])), (aCode_ops, .inl (cI, 200, .inl Code_ops)), (aCode_args, .inl (cI, 200, .inl Code_args_8)), (aLinker, .inr (2, [.ref aCode, .ref aLinker_waiting, .int (Linker_open - (1 : Int32)), .int Linker_openLoops])), (aLinker_waiting, .inl (cI, 8, .inl Linker_waiting))]) [3, 2, 4, 0, 1] (by decide) rfl
            cases h
            rw [hQ]
            exact W.zret (ty := .boolean) hx hb hr rfl (fun t ht hW => ⟨⟨_, (), rfl, rfl, by rw [ht]; exact hP, va_K.moved hW.alike hK, hD⟩, hS.F ht⟩) hS.2.2 dX2_close_118
          · have h := it_t c_10 h
            refine lv_iconst (v := (1 : Int32)) hx hb dX2_close_113 (by decide) ?_
            refine lv_goto (tgt := 118) hx hb dX2_close_114 (by decide) ?_
            have hP := hP.sub (ws' := [(aCode, .inr (0, [.ref aCode_ops, .ref aCode_args])), (aCode_ops, .inl (cI, 200, .inl Code_ops)), (aCode_args, .inl (cI, 200, .inl Code_args_8)), (aLinker, .inr (2, [.ref aCode, .ref aLinker_waiting, .int (Linker_open - (1 : Int32)), .int Linker_openLoops])), (aLinker_waiting, .inl (cI, 8, .inl Linker_waiting))]) [3, 2, 4, 0, 1] rfl
            have hD := hD.sub (ws' := [(aCode, .inr (0, [.ref aCode_ops, .ref aCode_args])), (aCode_ops, .inl (cI, 200, .inl Code_ops)), (aCode_args, .inl (cI, 200, .inl Code_args_8)), (aLinker, .inr (2, [.ref aCode, .ref aLinker_waiting, .int (Linker_open - (1 : Int32)), .int Linker_openLoops])), (aLinker_waiting, .inl (cI, 8, .inl Linker_waiting))]) [3, 2, 4, 0, 1] (by decide) rfl
            cases h
            rw [hQ]
            exact W.zret (ty := .boolean) hx hb hr rfl (fun t ht hW => ⟨⟨_, (), rfl, rfl, by rw [ht]; exact hP, va_K.moved hW.alike hK, hD⟩, hS.F ht⟩) hS.2.2 dX2_close_118
      have h := it_f c_7 h
      by_cases c_11 : p1 = (40 : Int32)
      · have h := it_t c_11 h
        refine lv_lookup (tgt := 119) (off := 67) hx hb dX2_close_52 (by decide) (by rw [c_11]; decide) (by decide) ?_
        refine lv_aload_n hx hb dX2_close_119 rfl (lv_at hl 2 rfl) ?_
        refine va_get (D := (dC, dI)) (ci := 2) (v := .ref aCode) (C := RX2) (T := TX2) (N := 4) hx hb hts (fun w h => List.mem_cons_of_mem _ (inX2 w h)) hown hK hP 1 rfl rfl 0 (by decide) (hts _ (List.mem_cons_of_mem _ mw_24)) (fun _ h9 => h9) rfl dX2_close_120 ?_
        refine lv_iload_n hx hb dX2_close_123 rfl (lv_at hl 3 rfl) ?_
        refine lv_aload_n hx hb dX2_close_124 rfl (lv_at hl 2 rfl) ?_
        refine va_get (D := (dC, dI)) (ci := 2) (v := .ref aCode) (C := RX2) (T := TX2) (N := 4) hx hb hts (fun w h => List.mem_cons_of_mem _ (inX2 w h)) hown hK hP 1 rfl rfl 0 (by decide) (hts _ (List.mem_cons_of_mem _ mw_24)) (fun _ h9 => h9) rfl dX2_close_125 ?_
        refine lv_iload_n hx hb dX2_close_128 rfl (lv_at hl 1 rfl) ?_
        obtain ⟨r_12, hc_12, h⟩ := bd1_some h
        have hPc := hP.sub (ws' := [(aCode, .inr (0, [.ref aCode_ops, .ref aCode_args])), (aCode_args, .inl (cI, 200, .inl Code_args))]) [3, 0] rfl
        have hDc := hD.sub (ws' := [(aCode, .inr (0, [.ref aCode_ops, .ref aCode_args])), (aCode_args, .inl (cI, 200, .inl Code_args))]) [3, 0] (by decide) rfl
        have hFc := va_free (wc := [(aCode, .inr (0, [.ref aCode_ops, .ref aCode_args])), (aCode_args, .inl (cI, 200, .inl Code_args))]) hD hS hA [3, 0] rfl
        refine va_calli (va_runV (As := [.int x_3]) (rest := [.int p0, .ref aCode]) ⟨hx, hb, hml, hown, hts⟩ (ctX0_argAt l dC dI cI cC cJ aCode aCode_ops aCode_args _ Code_args x_3 r_12 hc_12) (cwV 1 hts (gV_ hc_ mw_33 mw_34 mw_35 mw_19 mw_36) rfl rfl rfl (by decide +kernel) ⟨Nat.le_of_ble_eq_true rfl, Nat.le_of_ble_eq_true rfl⟩) ⟨fun a U g mk q => by obtain ⟨q0, q1, qP, qK, qD⟩ := q; exact ⟨q0, q1, qP, va_K.moved (u := U) (U := U.calling g mk a) (Vm.Alike.refl U.vm) qK, qD⟩, va_recv hK hPc (ci := 0) (q0 := 0) rfl rfl, fun U hU hW => ⟨rfl, by rw [hU], by rw [hU]; exact hPc, va_K.moved hW.alike hK, hDc.weaken (fun _ _ _ _ => trivial)⟩⟩ rfl rfl hl.1 rfl (lv_room (Nat.le_of_ble_eq_true rfl)) dX2_close_129 ⟨Nat.zero_le _, Nat.zero_le _⟩) hS (fun q _ h => hFc q h) hFc (fun r_12 u t H1 locs ht hvm hw hB hz1 hk1 hS => ?_)
        obtain ⟨hP1, hK1, hD1⟩ := hB
        rw [ht] at hP1
        subst hw
        obtain ⟨hP, hD⟩ := va_join (wr := [(aLinker, .inr (2, [.ref aCode, .ref aLinker_waiting, .int (Linker_open - (1 : Int32)), .int Linker_openLoops])), (aLinker_waiting, .inl (cI, 8, .inl Linker_waiting)), (aCode_ops, .inl (cI, 200, .inl Code_ops))]) (w1 := [(aCode, .inr (0, [.ref aCode_ops, .ref aCode_args])), (aCode_args, .inl (cI, 200, .inl Code_args))]) hP hD [3, 0] [1, 2, 4] rfl rfl (by decide) (by decide) hk1 hFc hP1 hD1
        generalize H1 = H at hP hS ⊢
        have hP : va_P (dC, dI) vwCl [(aLinker, .inr (2, [.ref aCode, .ref aLinker_waiting, .int (Linker_open - (1 : Int32)), .int Linker_openLoops])), (aLinker_waiting, .inl (cI, 8, .inl Linker_waiting)), (aCode_ops, .inl (cI, 200, .inl Code_ops)), (aCode, .inr (0, [.ref aCode_ops, .ref aCode_args])), (aCode_args, .inl (cI, 200, .inl Code_args))] H := hP
        have hD : va_D A [(aLinker, .inr (2, [.ref aCode, .ref aLinker_waiting, .int (Linker_open - (1 : Int32)), .int Linker_openLoops])), (aLinker_waiting, .inl (cI, 8, .inl Linker_waiting)), (aCode_ops, .inl (cI, 200, .inl Code_ops)), (aCode, .inr (0, [.ref aCode_ops, .ref aCode_args])), (aCode_args, .inl (cI, 200, .inl Code_args))] := hD
        obtain ⟨Code_args_13, hc_13, h⟩ := bd1_some h
        have hPc := hP.sub (ws' := [(aCode, .inr (0, [.ref aCode_ops, .ref aCode_args])), (aCode_args, .inl (cI, 200, .inl Code_args))]) [3, 4] rfl
        have hDc := hD.sub (ws' := [(aCode, .inr (0, [.ref aCode_ops, .ref aCode_args])), (aCode_args, .inl (cI, 200, .inl Code_args))]) [3, 4] (by decide) rfl
        have hFc := va_free (wc := [(aCode, .inr (0, [.ref aCode_ops, .ref aCode_args])), (aCode_args, .inl (cI, 200, .inl Code_args))]) hD hS hA [3, 4] rfl
        refine va_callv (va_runV (As := [.int p0, .int r_12]) (rest := []) ⟨hx, hb, hml, hown, hts⟩ (ctX0_lead l dC dI cI cC cJ aCode aCode_ops aCode_args _ Code_args p0 r_12 Code_args_13 hc_13) (cwV 2 hts (gV_ hc_ mw_25 mw_26 mw_27 mw_19 mw_28) rfl rfl rfl (by decide +kernel) ⟨Nat.le_of_ble_eq_true rfl, Nat.le_of_ble_eq_true rfl⟩) ⟨fun a U g mk q => by obtain ⟨q0, q1, qP, qK, qD⟩ := q; exact ⟨q0, q1, qP, va_K.moved (u := U) (U := U.calling g mk a) (Vm.Alike.refl U.vm) qK, qD⟩, va_recv hK hPc (ci := 0) (q0 := 0) rfl rfl, fun U hU hW => ⟨rfl, by rw [hU], by rw [hU]; exact hPc, va_K.moved hW.alike hK, hDc.weaken (fun _ _ _ _ => trivial)⟩⟩ rfl rfl hl.1 rfl (lv_room (Nat.le_of_ble_eq_true rfl)) dX2_close_132 ⟨Nat.zero_le _, Nat.zero_le _⟩) hS (fun q _ h => hFc q h) hFc (fun u t H1 locs ht hvm hw hB hz1 hk1 hS => ?_)
        obtain ⟨hP1, hK1, hD1⟩ := hB
        rw [ht] at hP1
        obtain ⟨hP, hD⟩ := va_join (wr := [(aLinker, .inr (2, [.ref aCode, .ref aLinker_waiting, .int (Linker_open - (1 : Int32)), .int Linker_openLoops])), (aLinker_waiting, .inl (cI, 8, .inl Linker_waiting)), (aCode_ops, .inl (cI, 200, .inl Code_ops))]) (w1 := [(aCode, .inr (0, [.ref aCode_ops, .ref aCode_args])), (aCode_args, .inl (cI, 200, .inl Code_args_13))]) hP hD [3, 4] [0, 1, 2] rfl rfl (by decide) (by decide) hk1 hFc hP1 hD1
        generalize H1 = H at hP hS ⊢
        have hP : va_P (dC, dI) vwCl [(aLinker, .inr (2, [.ref aCode, .ref aLinker_waiting, .int (Linker_open - (1 : Int32)), .int Linker_openLoops])), (aLinker_waiting, .inl (cI, 8, .inl Linker_waiting)), (aCode_ops, .inl (cI, 200, .inl Code_ops)), (aCode, .inr (0, [.ref aCode_ops, .ref aCode_args])), (aCode_args, .inl (cI, 200, .inl Code_args_13))] H := hP
        have hD : va_D A [(aLinker, .inr (2, [.ref aCode, .ref aLinker_waiting, .int (Linker_open - (1 : Int32)), .int Linker_openLoops])), (aLinker_waiting, .inl (cI, 8, .inl Linker_waiting)), (aCode_ops, .inl (cI, 200, .inl Code_ops)), (aCode, .inr (0, [.ref aCode_ops, .ref aCode_args])), (aCode_args, .inl (cI, 200, .inl Code_args_13))] := hD
        refine lv_aload_n hx hb dX2_close_135 rfl (lv_at hl 2 rfl) ?_
        refine va_get (D := (dC, dI)) (ci := 2) (v := .ref aCode) (C := RX2) (T := TX2) (N := 4) hx hb hts (fun w h => List.mem_cons_of_mem _ (inX2 w h)) hown hK hP 0 rfl rfl 0 (by decide) (hts _ (List.mem_cons_of_mem _ mw_24)) (fun _ h9 => h9) rfl dX2_close_136 ?_
        refine lv_iload_n hx hb dX2_close_139 rfl (lv_at hl 1 rfl) ?_
        refine lv_iload_n hx hb dX2_close_140 rfl (lv_at hl 3 rfl) ?_
        refine lv_iconst (v := (1 : Int32)) hx hb dX2_close_141 (by decide) ?_
        refine lv_iadd hx hb dX2_close_142 ?_
        obtain ⟨Code_args_14, hc_14, h⟩ := bd1_some h
        have hPc := hP.sub (ws' := [(aCode, .inr (0, [.ref aCode_ops, .ref aCode_args])), (aCode_args, .inl (cI, 200, .inl Code_args_13))]) [3, 4] rfl
        have hDc := hD.sub (ws' := [(aCode, .inr (0, [.ref aCode_ops, .ref aCode_args])), (aCode_args, .inl (cI, 200, .inl Code_args_13))]) [3, 4] (by decide) rfl
        have hFc := va_free (wc := [(aCode, .inr (0, [.ref aCode_ops, .ref aCode_args])), (aCode_args, .inl (cI, 200, .inl Code_args_13))]) hD hS hA [3, 4] rfl
        refine va_callv (va_runV (As := [.int x_3, .int (p0 + (1 : Int32))]) (rest := []) ⟨hx, hb, hml, hown, hts⟩ (ctX0_lead l dC dI cI cC cJ aCode aCode_ops aCode_args _ Code_args_13 x_3 (p0 + (1 : Int32)) Code_args_14 hc_14) (cwV 2 hts (gV_ hc_ mw_25 mw_26 mw_27 mw_19 mw_28) rfl rfl rfl (by decide +kernel) ⟨Nat.le_of_ble_eq_true rfl, Nat.le_of_ble_eq_true rfl⟩) ⟨fun a U g mk q => by obtain ⟨q0, q1, qP, qK, qD⟩ := q; exact ⟨q0, q1, qP, va_K.moved (u := U) (U := U.calling g mk a) (Vm.Alike.refl U.vm) qK, qD⟩, va_recv hK hPc (ci := 0) (q0 := 0) rfl rfl, fun U hU hW => ⟨rfl, by rw [hU], by rw [hU]; exact hPc, va_K.moved hW.alike hK, hDc.weaken (fun _ _ _ _ => trivial)⟩⟩ rfl rfl hl.1 rfl (lv_room (Nat.le_of_ble_eq_true rfl)) dX2_close_143 ⟨Nat.zero_le _, Nat.zero_le _⟩) hS (fun q _ h => hFc q h) hFc (fun u t H1 locs ht hvm hw hB hz1 hk1 hS => ?_)
        obtain ⟨hP1, hK1, hD1⟩ := hB
        rw [ht] at hP1
        obtain ⟨hP, hD⟩ := va_join (wr := [(aLinker, .inr (2, [.ref aCode, .ref aLinker_waiting, .int (Linker_open - (1 : Int32)), .int Linker_openLoops])), (aLinker_waiting, .inl (cI, 8, .inl Linker_waiting)), (aCode_ops, .inl (cI, 200, .inl Code_ops))]) (w1 := [(aCode, .inr (0, [.ref aCode_ops, .ref aCode_args])), (aCode_args, .inl (cI, 200, .inl Code_args_14))]) hP hD [3, 4] [0, 1, 2] rfl rfl (by decide) (by decide) hk1 hFc hP1 hD1
        generalize H1 = H at hP hS ⊢
        have hP : va_P (dC, dI) vwCl [(aLinker, .inr (2, [.ref aCode, .ref aLinker_waiting, .int (Linker_open - (1 : Int32)), .int Linker_openLoops])), (aLinker_waiting, .inl (cI, 8, .inl Linker_waiting)), (aCode_ops, .inl (cI, 200, .inl Code_ops)), (aCode, .inr (0, [.ref aCode_ops, .ref aCode_args])), (aCode_args, .inl (cI, 200, .inl Code_args_14))] H := hP
        have hD : va_D A [(aLinker, .inr (2, [.ref aCode, .ref aLinker_waiting, .int (Linker_open - (1 : Int32)), .int Linker_openLoops])), (aLinker_waiting, .inl (cI, 8, .inl Linker_waiting)), (aCode_ops, .inl (cI, 200, .inl Code_ops)), (aCode, .inr (0, [.ref aCode_ops, .ref aCode_args])), (aCode_args, .inl (cI, 200, .inl Code_args_14))] := hD
        refine lv_iload hx hb dX2_close_146 (lv_at hl 0 rfl) ?_
        refine lv_bipush (v := (39 : Int32)) hx hb dX2_close_148 (by decide) ?_
        refine lv_icmp_ne (tgt := 157) hx hb dX2_close_150 (by decide) (fun c_15 => ?_) (fun c_15 => ?_)
        · have h := it_f c_15 h
          refine lv_iconst (v := (0 : Int32)) hx hb dX2_close_157 (by decide) ?_
          have hP := hP.sub (ws' := [(aCode, .inr (0, [.ref aCode_ops, .ref aCode_args])), (aCode_ops, .inl (cI, 200, .inl Code_ops)), (aCode_args, .inl (cI, 200, .inl Code_args_14)), (aLinker, .inr (2, [.ref aCode, .ref aLinker_waiting, .int (Linker_open - (1 : Int32)), .int Linker_openLoops])), (aLinker_waiting, .inl (cI, 8, .inl Linker_waiting))]) [3, 2, 4, 0, 1] rfl
          have hD := hD.sub (ws' := [(aCode, .inr (0, [.ref aCode_ops, .ref aCode_args])), (aCode_ops, .inl (cI, 200, .inl Code_ops)), (aCode_args, .inl (cI, 200, .inl Code_args_14)), (aLinker, .inr (2, [.ref aCode, .ref aLinker_waiting, .int (Linker_open - (1 : Int32)), .int Linker_openLoops])), (aLinker_waiting, .inl (cI, 8, .inl Linker_waiting))]) [3, 2, 4, 0, 1] (by decide) rfl
          cases h
          rw [hQ]
          exact W.zret (ty := .boolean) hx hb hr rfl (fun t ht hW => ⟨⟨_, (), rfl, rfl, by rw [ht]; exact hP, va_K.moved hW.alike hK, hD⟩, hS.F ht⟩) hS.2.2 dX2_close_158
        · have h := it_t c_15 h
          refine lv_iconst (v := (1 : Int32)) hx hb dX2_close_153 (by decide) ?_
          refine lv_goto (tgt := 158) hx hb dX2_close_154 (by decide) ?_
          have hP := hP.sub (ws' := [(aCode, .inr (0, [.ref aCode_ops, .ref aCode_args])), (aCode_ops, .inl (cI, 200, .inl Code_ops)), (aCode_args, .inl (cI, 200, .inl Code_args_14)), (aLinker, .inr (2, [.ref aCode, .ref aLinker_waiting, .int (Linker_open - (1 : Int32)), .int Linker_openLoops])), (aLinker_waiting, .inl (cI, 8, .inl Linker_waiting))]) [3, 2, 4, 0, 1] rfl
          have hD := hD.sub (ws' := [(aCode, .inr (0, [.ref aCode_ops, .ref aCode_args])), (aCode_ops, .inl (cI, 200, .inl Code_ops)), (aCode_args, .inl (cI, 200, .inl Code_args_14)), (aLinker, .inr (2, [.ref aCode, .ref aLinker_waiting, .int (Linker_open - (1 : Int32)), .int Linker_openLoops])), (aLinker_waiting, .inl (cI, 8, .inl Linker_waiting))]) [3, 2, 4, 0, 1] (by decide) rfl
          cases h
          rw [hQ]
          exact W.zret (ty := .boolean) hx hb hr rfl (fun t ht hW => ⟨⟨_, (), rfl, rfl, by rw [ht]; exact hP, va_K.moved hW.alike hK, hD⟩, hS.F ht⟩) hS.2.2 dX2_close_158
      have h := it_f c_11 h
      by_cases c_16 : p1 = (42 : Int32)
      · have h := it_t c_16 h
        refine lv_lookup (tgt := 159) (off := 107) hx hb dX2_close_52 (by decide) (by rw [c_16]; decide) (by decide) ?_
        refine lv_aload_n hx hb dX2_close_159 rfl (lv_at hl 2 rfl) ?_
        refine lv_dup hx hb dX2_close_160 rfl ?_
        refine va_get (D := (dC, dI)) (ci := 2) (v := .int Linker_openLoops) (C := RX2) (T := TX2) (N := 4) hx hb hts (fun w h => List.mem_cons_of_mem _ (inX2 w h)) hown hK hP 1 rfl rfl 3 (by decide) (hts _ (List.mem_cons_of_mem _ mw_23)) (fun _ h9 => h9) rfl dX2_close_161 ?_
        refine lv_iconst (v := (1 : Int32)) hx hb dX2_close_164 (by decide) ?_
        refine lv_isub hx hb dX2_close_165 ?_
        refine va_put (D := (dC, dI)) (ci := 2) (v := .int (Linker_openLoops - (1 : Int32))) (ty := .int) (C := RX2) (T := TX2) (N := 4) hx hb hts (fun w h => List.mem_cons_of_mem _ (inX2 w h)) tyX2 tyX2_ok nmX2 hown hK hP hD hS 1 rfl rfl 3 (by decide) (hts _ (List.mem_cons_of_mem _ mw_23)) (fun _ h9 => h9) rfl (by decide +kernel) rfl rfl (Nat.le_of_ble_eq_true rfl) dX2_close_166 (fun H locs hP hD hS => ?_)
        have hP : va_P (dC, dI) vwCl [(aCode_args, .inl (cI, 200, .inl Code_args)), (aLinker, .inr (2, [.ref aCode, .ref aLinker_waiting, .int (Linker_open - (1 : Int32)), .int (Linker_openLoops - (1 : Int32))])), (aLinker_waiting, .inl (cI, 8, .inl Linker_waiting)), (aCode, .inr (0, [.ref aCode_ops, .ref aCode_args])), (aCode_ops, .inl (cI, 200, .inl Code_ops))] H := hP
        have hD : va_D A [(aCode_args, .inl (cI, 200, .inl Code_args)), (aLinker, .inr (2, [.ref aCode, .ref aLinker_waiting, .int (Linker_open - (1 : Int32)), .int (Linker_openLoops - (1 : Int32))])), (aLinker_waiting, .inl (cI, 8, .inl Linker_waiting)), (aCode, .inr (0, [.ref aCode_ops, .ref aCode_args])), (aCode_ops, .inl (cI, 200, .inl Code_ops))] := hD
        refine lv_aload_n hx hb dX2_close_169 rfl (lv_at hl 2 rfl) ?_
        refine va_get (D := (dC, dI)) (ci := 2) (v := .ref aCode) (C := RX2) (T := TX2) (N := 4) hx hb hts (fun w h => List.mem_cons_of_mem _ (inX2 w h)) hown hK hP 1 rfl rfl 0 (by decide) (hts _ (List.mem_cons_of_mem _ mw_24)) (fun _ h9 => h9) rfl dX2_close_170 ?_
        refine lv_iload_n hx hb dX2_close_173 rfl (lv_at hl 3 rfl) ?_
        refine lv_iload_n hx hb dX2_close_174 rfl (lv_at hl 1 rfl) ?_
        refine lv_iconst (v := (1 : Int32)) hx hb dX2_close_175 (by decide) ?_
        refine lv_iadd hx hb dX2_close_176 ?_
        obtain ⟨Code_args_17, hc_17, h⟩ := bd1_some h
        have hPc := hP.sub (ws' := [(aCode, .inr (0, [.ref aCode_ops, .ref aCode_args])), (aCode_args, .inl (cI, 200, .inl Code_args))]) [3, 0] rfl
        have hDc := hD.sub (ws' := [(aCode, .inr (0, [.ref aCode_ops, .ref aCode_args])), (aCode_args, .inl (cI, 200, .inl Code_args))]) [3, 0] (by decide) rfl
        have hFc := va_free (wc := [(aCode, .inr (0, [.ref aCode_ops, .ref aCode_args])), (aCode_args, .inl (cI, 200, .inl Code_args))]) hD hS hA [3, 0] rfl
        refine va_callv (va_runV (As := [.int p0, .int (x_3 + (1 : Int32))]) (rest := []) ⟨hx, hb, hml, hown, hts⟩ (ctX0_lead l dC dI cI cC cJ aCode aCode_ops aCode_args _ Code_args p0 (x_3 + (1 : Int32)) Code_args_17 hc_17) (cwV 2 hts (gV_ hc_ mw_25 mw_26 mw_27 mw_19 mw_28) rfl rfl rfl (by decide +kernel) ⟨Nat.le_of_ble_eq_true rfl, Nat.le_of_ble_eq_true rfl⟩) ⟨fun a U g mk q => by obtain ⟨q0, q1, qP, qK, qD⟩ := q; exact ⟨q0, q1, qP, va_K.moved (u := U) (U := U.calling g mk a) (Vm.Alike.refl U.vm) qK, qD⟩, va_recv hK hPc (ci := 0) (q0 := 0) rfl rfl, fun U hU hW => ⟨rfl, by rw [hU], by rw [hU]; exact hPc, va_K.moved hW.alike hK, hDc.weaken (fun _ _ _ _ => trivial)⟩⟩ rfl rfl hl.1 rfl (lv_room (Nat.le_of_ble_eq_true rfl)) dX2_close_177 ⟨Nat.zero_le _, Nat.zero_le _⟩) hS (fun q _ h => hFc q h) hFc (fun u t H1 locs ht hvm hw hB hz1 hk1 hS => ?_)
        obtain ⟨hP1, hK1, hD1⟩ := hB
        rw [ht] at hP1
        obtain ⟨hP, hD⟩ := va_join (wr := [(aLinker, .inr (2, [.ref aCode, .ref aLinker_waiting, .int (Linker_open - (1 : Int32)), .int (Linker_openLoops - (1 : Int32))])), (aLinker_waiting, .inl (cI, 8, .inl Linker_waiting)), (aCode_ops, .inl (cI, 200, .inl Code_ops))]) (w1 := [(aCode, .inr (0, [.ref aCode_ops, .ref aCode_args])), (aCode_args, .inl (cI, 200, .inl Code_args_17))]) hP hD [3, 0] [1, 2, 4] rfl rfl (by decide) (by decide) hk1 hFc hP1 hD1
        generalize H1 = H at hP hS ⊢
        have hP : va_P (dC, dI) vwCl [(aLinker, .inr (2, [.ref aCode, .ref aLinker_waiting, .int (Linker_open - (1 : Int32)), .int (Linker_openLoops - (1 : Int32))])), (aLinker_waiting, .inl (cI, 8, .inl Linker_waiting)), (aCode_ops, .inl (cI, 200, .inl Code_ops)), (aCode, .inr (0, [.ref aCode_ops, .ref aCode_args])), (aCode_args, .inl (cI, 200, .inl Code_args_17))] H := hP
        have hD : va_D A [(aLinker, .inr (2, [.ref aCode, .ref aLinker_waiting, .int (Linker_open - (1 : Int32)), .int (Linker_openLoops - (1 : Int32))])), (aLinker_waiting, .inl (cI, 8, .inl Linker_waiting)), (aCode_ops, .inl (cI, 200, .inl Code_ops)), (aCode, .inr (0, [.ref aCode_ops, .ref aCode_args])), (aCode_args, .inl (cI, 200, .inl Code_args_17))] := hD
        refine lv_iload hx hb dX2_close_180 (lv_at hl 0 rfl) ?_
        refine lv_bipush (v := (41 : Int32)) hx hb dX2_close_182 (by decide) ?_
        refine lv_icmp_ne (tgt := 191) hx hb dX2_close_184 (by decide) (fun c_18 => ?_) (fun c_18 => ?_)
        · have h := it_f c_18 h
          refine lv_iconst (v := (0 : Int32)) hx hb dX2_close_191 (by decide) ?_
          have hP := hP.sub (ws' := [(aCode, .inr (0, [.ref aCode_ops, .ref aCode_args])), (aCode_ops, .inl (cI, 200, .inl Code_ops)), (aCode_args, .inl (cI, 200, .inl Code_args_17)), (aLinker, .inr (2, [.ref aCode, .ref aLinker_waiting, .int (Linker_open - (1 : Int32)), .int (Linker_openLoops - (1 : Int32))])), (aLinker_waiting, .inl (cI, 8, .inl Linker_waiting))]) [3, 2, 4, 0, 1] rfl
          have hD := hD.sub (ws' := [(aCode, .inr (0, [.ref aCode_ops, .ref aCode_args])), (aCode_ops, .inl (cI, 200, .inl Code_ops)), (aCode_args, .inl (cI, 200, .inl Code_args_17)), (aLinker, .inr (2, [.ref aCode, .ref aLinker_waiting, .int (Linker_open - (1 : Int32)), .int (Linker_openLoops - (1 : Int32))])), (aLinker_waiting, .inl (cI, 8, .inl Linker_waiting))]) [3, 2, 4, 0, 1] (by decide) rfl
          cases h
          rw [hQ]
          exact W.zret (ty := .boolean) hx hb hr rfl (fun t ht hW => ⟨⟨_, (), rfl, rfl, by rw [ht]; exact hP, va_K.moved hW.alike hK, hD⟩, hS.F ht⟩) hS.2.2 dX2_close_192
        · have h := it_t c_18 h
          refine lv_iconst (v := (1 : Int32)) hx hb dX2_close_187 (by decide) ?_
          refine lv_goto (tgt := 192) hx hb dX2_close_188 (by decide) ?_
          have hP := hP.sub (ws' := [(aCode, .inr (0, [.ref aCode_ops, .ref aCode_args])), (aCode_ops, .inl (cI, 200, .inl Code_ops)), (aCode_args, .inl (cI, 200, .inl Code_args_17)), (aLinker, .inr (2, [.ref aCode, .ref aLinker_waiting, .int (Linker_open - (1 : Int32)), .int (Linker_openLoops - (1 : Int32))])), (aLinker_waiting, .inl (cI, 8, .inl Linker_waiting))]) [3, 2, 4, 0, 1] rfl
          have hD := hD.sub (ws' := [(aCode, .inr (0, [.ref aCode_ops, .ref aCode_args])), (aCode_ops, .inl (cI, 200, .inl Code_ops)), (aCode_args, .inl (cI, 200, .inl Code_args_17)), (aLinker, .inr (2, [.ref aCode, .ref aLinker_waiting, .int (Linker_open - (1 : Int32)), .int (Linker_openLoops - (1 : Int32))])), (aLinker_waiting, .inl (cI, 8, .inl Linker_waiting))]) [3, 2, 4, 0, 1] (by decide) rfl
          cases h
          rw [hQ]
          exact W.zret (ty := .boolean) hx hb hr rfl (fun t ht hW => ⟨⟨_, (), rfl, rfl, by rw [ht]; exact hP, va_K.moved hW.alike hK, hD⟩, hS.F ht⟩) hS.2.2 dX2_close_192
      have h := it_f c_16 h
      have ho : Op.lookupswitch.offset [(35, 36), (40, 67), (42, 107)] 141 (p1).toInt = 141 := by rw [lv_osw (k := (35 : Int32)) c_7 (by decide), lv_osw (k := (40 : Int32)) c_11 (by decide), lv_osw (k := (42 : Int32)) c_16 (by decide)]; rfl
      refine lv_lookup (tgt := 193) (off := 141) hx hb dX2_close_52 (by decide) ho (by decide) ?_
      refine lv_aload_n hx hb dX2_close_193 rfl (lv_at hl 2 rfl) ?_
      refine va_get (D := (dC, dI)) (ci := 2) (v := .ref aCode) (C := RX2) (T := TX2) (N := 4) hx hb hts (fun w h => List.mem_cons_of_mem _ (inX2 w h)) hown hK hP 1 rfl rfl 0 (by decide) (hts _ (List.mem_cons_of_mem _ mw_24)) (fun _ h9 => h9) rfl dX2_close_194 ?_
      refine lv_iload_n hx hb dX2_close_197 rfl (lv_at hl 3 rfl) ?_
      refine lv_iload_n hx hb dX2_close_198 rfl (lv_at hl 1 rfl) ?_
      refine lv_iconst (v := (1 : Int32)) hx hb dX2_close_199 (by decide) ?_
      refine lv_iadd hx hb dX2_close_200 ?_
      obtain ⟨Code_args_19, hc_19, h⟩ := bd1_some h
      have hPc := hP.sub (ws' := [(aCode, .inr (0, [.ref aCode_ops, .ref aCode_args])), (aCode_args, .inl (cI, 200, .inl Code_args))]) [3, 0] rfl
      have hDc := hD.sub (ws' := [(aCode, .inr (0, [.ref aCode_ops, .ref aCode_args])), (aCode_args, .inl (cI, 200, .inl Code_args))]) [3, 0] (by decide) rfl
      have hFc := va_free (wc := [(aCode, .inr (0, [.ref aCode_ops, .ref aCode_args])), (aCode_args, .inl (cI, 200, .inl Code_args))]) hD hS hA [3, 0] rfl
      refine va_callv (va_runV (As := [.int p0, .int (x_3 + (1 : Int32))]) (rest := []) ⟨hx, hb, hml, hown, hts⟩ (ctX0_lead l dC dI cI cC cJ aCode aCode_ops aCode_args _ Code_args p0 (x_3 + (1 : Int32)) Code_args_19 hc_19) (cwV 2 hts (gV_ hc_ mw_25 mw_26 mw_27 mw_19 mw_28) rfl rfl rfl (by decide +kernel) ⟨Nat.le_of_ble_eq_true rfl, Nat.le_of_ble_eq_true rfl⟩) ⟨fun a U g mk q => by obtain ⟨q0, q1, qP, qK, qD⟩ := q; exact ⟨q0, q1, qP, va_K.moved (u := U) (U := U.calling g mk a) (Vm.Alike.refl U.vm) qK, qD⟩, va_recv hK hPc (ci := 0) (q0 := 0) rfl rfl, fun U hU hW => ⟨rfl, by rw [hU], by rw [hU]; exact hPc, va_K.moved hW.alike hK, hDc.weaken (fun _ _ _ _ => trivial)⟩⟩ rfl rfl hl.1 rfl (lv_room (Nat.le_of_ble_eq_true rfl)) dX2_close_201 ⟨Nat.zero_le _, Nat.zero_le _⟩) hS (fun q _ h => hFc q h) hFc (fun u t H1 locs ht hvm hw hB hz1 hk1 hS => ?_)
      obtain ⟨hP1, hK1, hD1⟩ := hB
      rw [ht] at hP1
      obtain ⟨hP, hD⟩ := va_join (wr := [(aLinker, .inr (2, [.ref aCode, .ref aLinker_waiting, .int (Linker_open - (1 : Int32)), .int Linker_openLoops])), (aLinker_waiting, .inl (cI, 8, .inl Linker_waiting)), (aCode_ops, .inl (cI, 200, .inl Code_ops))]) (w1 := [(aCode, .inr (0, [.ref aCode_ops, .ref aCode_args])), (aCode_args, .inl (cI, 200, .inl Code_args_19))]) hP hD [3, 0] [1, 2, 4] rfl rfl (by decide) (by decide) hk1 hFc hP1 hD1
      generalize H1 = H at hP hS ⊢
      have hP : va_P (dC, dI) vwCl [(aLinker, .inr (2, [.ref aCode, .ref aLinker_waiting, .int (Linker_open - (1 : Int32)), .int Linker_openLoops])), (aLinker_waiting, .inl (cI, 8, .inl Linker_waiting)), (aCode_ops, .inl (cI, 200, .inl Code_ops)), (aCode, .inr (0, [.ref aCode_ops, .ref aCode_args])), (aCode_args, .inl (cI, 200, .inl Code_args_19))] H := hP
      have hD : va_D A [(aLinker, .inr (2, [.ref aCode, .ref aLinker_waiting, .int (Linker_open - (1 : Int32)), .int Linker_openLoops])), (aLinker_waiting, .inl (cI, 8, .inl Linker_waiting)), (aCode_ops, .inl (cI, 200, .inl Code_ops)), (aCode, .inr (0, [.ref aCode_ops, .ref aCode_args])), (aCode_args, .inl (cI, 200, .inl Code_args_19))] := hD
      refine lv_iload hx hb dX2_close_204 (lv_at hl 0 rfl) ?_
      refine lv_bipush (v := (36 : Int32)) hx hb dX2_close_206 (by decide) ?_
      refine lv_icmp_ne (tgt := 215) hx hb dX2_close_208 (by decide) (fun c_20 => ?_) (fun c_20 => ?_)
      · have h := it_f c_20 h
        refine lv_iconst (v := (0 : Int32)) hx hb dX2_close_215 (by decide) ?_
        have hP := hP.sub (ws' := [(aCode, .inr (0, [.ref aCode_ops, .ref aCode_args])), (aCode_ops, .inl (cI, 200, .inl Code_ops)), (aCode_args, .inl (cI, 200, .inl Code_args_19)), (aLinker, .inr (2, [.ref aCode, .ref aLinker_waiting, .int (Linker_open - (1 : Int32)), .int Linker_openLoops])), (aLinker_waiting, .inl (cI, 8, .inl Linker_waiting))]) [3, 2, 4, 0, 1] rfl
        have hD := hD.sub (ws' := [(aCode, .inr (0, [.ref aCode_ops, .ref aCode_args])), (aCode_ops, .inl (cI, 200, .inl Code_ops)), (aCode_args, .inl (cI, 200, .inl Code_args_19)), (aLinker, .inr (2, [.ref aCode, .ref aLinker_waiting, .int (Linker_open - (1 : Int32)), .int Linker_openLoops])), (aLinker_waiting, .inl (cI, 8, .inl Linker_waiting))]) [3, 2, 4, 0, 1] (by decide) rfl
        cases h
        rw [hQ]
        exact W.zret (ty := .boolean) hx hb hr rfl (fun t ht hW => ⟨⟨_, (), rfl, rfl, by rw [ht]; exact hP, va_K.moved hW.alike hK, hD⟩, hS.F ht⟩) hS.2.2 dX2_close_216
      · have h := it_t c_20 h
        refine lv_iconst (v := (1 : Int32)) hx hb dX2_close_211 (by decide) ?_
        refine lv_goto (tgt := 216) hx hb dX2_close_212 (by decide) ?_
        have hP := hP.sub (ws' := [(aCode, .inr (0, [.ref aCode_ops, .ref aCode_args])), (aCode_ops, .inl (cI, 200, .inl Code_ops)), (aCode_args, .inl (cI, 200, .inl Code_args_19)), (aLinker, .inr (2, [.ref aCode, .ref aLinker_waiting, .int (Linker_open - (1 : Int32)), .int Linker_openLoops])), (aLinker_waiting, .inl (cI, 8, .inl Linker_waiting))]) [3, 2, 4, 0, 1] rfl
        have hD := hD.sub (ws' := [(aCode, .inr (0, [.ref aCode_ops, .ref aCode_args])), (aCode_ops, .inl (cI, 200, .inl Code_ops)), (aCode_args, .inl (cI, 200, .inl Code_args_19)), (aLinker, .inr (2, [.ref aCode, .ref aLinker_waiting, .int (Linker_open - (1 : Int32)), .int Linker_openLoops])), (aLinker_waiting, .inl (cI, 8, .inl Linker_waiting))]) [3, 2, 4, 0, 1] (by decide) rfl
        cases h
        rw [hQ]
        exact W.zret (ty := .boolean) hx hb hr rfl (fun t ht hW => ⟨⟨_, (), rfl, rfl, by rw [ht]; exact hP, va_K.moved hW.alike hK, hD⟩, hS.F ht⟩) hS.2.2 dX2_close_216
    · have h := it_f c_2 h
      refine lv_iconst (v := (0 : Int32)) hx hb dX2_close_19 (by decide) ?_
      cases h
      rw [hQ]
      exact W.zret (ty := .boolean) hx hb hr rfl (fun t ht hW => ⟨⟨_, (), rfl, rfl, by rw [ht]; exact hP, va_K.moved hW.alike hK, hD⟩, hS.F ht⟩) hS.2.2 dX2_close_20
abbrev rmX2_link : Room := { frames := 2, cells := 0, slots := 0, locals := 46 }
set_option maxHeartbeats 4000000 in
set_option maxRecDepth 100000 in
theorem ctX2_link (l : Launch) (dC : Nat → ClassId) (dI : Nat → Nat → Nat) (cI cC cJ : ClassId) (aCode aCode_ops aCode_args aLinker aLinker_waiting : Nat) (sz : Nat) (Code_ops : Nat → Int32) (Code_args : Nat → Int32) (Linker_waiting : Nat → Int32) (Linker_open : Int32) (Linker_openLoops : Int32) (p0 : Int32) (p1 : Int32) (rr : Int32) (w_Code_args : Nat → Int32) (w_Linker_waiting : Nat → Int32) (w_Linker_open : Int32) (w_Linker_openLoops : Int32) (h : fnX2_link Code_ops Code_args Linker_waiting Linker_open Linker_openLoops p0 p1 = some (rr, w_Code_args, w_Linker_waiting, w_Linker_open, w_Linker_openLoops)) : Met l yX2_link wsX2_link rmX2_link (va_Pc [.ref aLinker, .int p0, .int p1] (fun U => U.heap.size = sz ∧ va_P (dC, dI) vwCl [(aCode, .inr (0, [.ref aCode_ops, .ref aCode_args])), (aCode_ops, .inl (cI, 200, .inl Code_ops)), (aCode_args, .inl (cI, 200, .inl Code_args)), (aLinker, .inr (2, [.ref aCode, .ref aLinker_waiting, .int Linker_open, .int Linker_openLoops])), (aLinker_waiting, .inl (cI, 8, .inl Linker_waiting))] U.heap ∧ va_K (dC, dI) vwCl [(cI, .int), (cC, .char), (cJ, .long)] U ∧ va_D (fun _ => True) [(aCode, .inr (0, [.ref aCode_ops, .ref aCode_args])), (aCode_ops, .inl (cI, 200, .inl Code_ops)), (aCode_args, .inl (cI, 200, .inl Code_args)), (aLinker, .inr (2, [.ref aCode, .ref aLinker_waiting, .int Linker_open, .int Linker_openLoops])), (aLinker_waiting, .inl (cI, 8, .inl Linker_waiting))])) (va_Qi (fun r (_ : Unit) => r = rr) (fun _ t => va_P (dC, dI) vwCl [(aCode, .inr (0, [.ref aCode_ops, .ref aCode_args])), (aCode_ops, .inl (cI, 200, .inl Code_ops)), (aCode_args, .inl (cI, 200, .inl w_Code_args)), (aLinker, .inr (2, [.ref aCode, .ref aLinker_waiting, .int w_Linker_open, .int w_Linker_openLoops])), (aLinker_waiting, .inl (cI, 8, .inl w_Linker_waiting))] t.heap ∧ va_K (dC, dI) vwCl [(cI, .int), (cC, .char), (cJ, .long)] t ∧ va_D (va_A [(aCode, .inr (0, [.ref aCode_ops, .ref aCode_args])), (aCode_ops, .inl (cI, 200, .inl Code_ops)), (aCode_args, .inl (cI, 200, .inl Code_args)), (aLinker, .inr (2, [.ref aCode, .ref aLinker_waiting, .int Linker_open, .int Linker_openLoops])), (aLinker_waiting, .inl (cI, 8, .inl Linker_waiting))] sz) [(aCode, .inr (0, [.ref aCode_ops, .ref aCode_args])), (aCode_ops, .inl (cI, 200, .inl Code_ops)), (aCode_args, .inl (cI, 200, .inl w_Code_args)), (aLinker, .inr (2, [.ref aCode, .ref aLinker_waiting, .int w_Linker_open, .int w_Linker_openLoops])), (aLinker_waiting, .inl (cI, 8, .inl w_Linker_waiting))]) (va_A [(aCode, .inr (0, [.ref aCode_ops, .ref aCode_args])), (aCode_ops, .inl (cI, 200, .inl Code_ops)), (aCode_args, .inl (cI, 200, .inl Code_args)), (aLinker, .inr (2, [.ref aCode, .ref aLinker_waiting, .int Linker_open, .int Linker_openLoops])), (aLinker_waiting, .inl (cI, 8, .inl Linker_waiting))] sz)) 0 0 (va_A [(aCode, .inr (0, [.ref aCode_ops, .ref aCode_args])), (aCode_ops, .inl (cI, 200, .inl Code_ops)), (aCode_args, .inl (cI, 200, .inl Code_args)), (aLinker, .inr (2, [.ref aCode, .ref aLinker_waiting, .int Linker_open, .int Linker_openLoops])), (aLinker_waiting, .inl (cI, 8, .inl Linker_waiting))] sz) := by
  refine Met.ofW (cc := cX2_link) (maxL := 6) (ret := (some .boolean)) (by decide) rfl ?_
  intro p e s m args below meth c s₁ B hml hv
  obtain ⟨hargs, hsz, hP, hK, hD0⟩ := hv
  have hx := B.exec
  have hb := B.bytes
  have hr := B.returns
  have hts := atoms_spec (ws := wsX2_link) B.pre
  have hown : s.vm.findClass RX2 = some m.cls := findClass_of_methodNamed B.named
  have hlocks := B.notSynchronized
  subst hsz
  have hD := hD0.self (sz := s.heap.size)
  generalize hAe : va_A [(aCode, .inr (0, [.ref aCode_ops, .ref aCode_args])), (aCode_ops, .inl (cI, 200, .inl Code_ops)), (aCode_args, .inl (cI, 200, .inl Code_args)), (aLinker, .inr (2, [.ref aCode, .ref aLinker_waiting, .int Linker_open, .int Linker_openLoops])), (aLinker_waiting, .inl (cI, 8, .inl Linker_waiting))] s.heap.size = A at hD ⊢
  have hA : ∀ q : Nat, s.heap.size ≤ q → A q := fun q h => by rw [← hAe]; exact Or.inr h
  have hS : va_S A s.heap s.heap [] := va_S.rf
  have hl := lv_entry ([.ref aLinker, .int p0, .int p1]) (n := 6) (Nat.le_of_ble_eq_true rfl)
  have hfr : entryFrame m args 6 = entryFrame m ([.ref aLinker, .int p0, .int p1] : List Value).toArray 6 := by rw [hargs]
  rw [hfr, lg_entry_eq]
  generalize (lg_sl ([.ref aLinker, .int p0, .int p1]) ++ List.replicate (6 - (lg_sl ([.ref aLinker, .int p0, .int p1])).length) Slot.unset).toArray = ls at hl ⊢
  have hl : lv_has ls 6 [(0, .ref aLinker), (1, .int p0), (2, .int p1)] := hl
  refine nameQ_ (fun Q hQ => ?_)
  have hP : va_P (dC, dI) vwCl [(aCode, .inr (0, [.ref aCode_ops, .ref aCode_args])), (aCode_ops, .inl (cI, 200, .inl Code_ops)), (aCode_args, .inl (cI, 200, .inl Code_args)), (aLinker, .inr (2, [.ref aCode, .ref aLinker_waiting, .int Linker_open, .int Linker_openLoops])), (aLinker_waiting, .inl (cI, 8, .inl Linker_waiting))] s.heap := hP
  have hj_148 : ∀ (k15 : Int32 → Int32 → Int32 → (Nat → Int32) → (Nat → Int32) → Int32 → Int32 → Option (Int32 × (Nat → Int32) × (Nat → Int32) × Int32 × Int32)), (∀ (x2 : Int32) (x3 : Int32) (x4 : Int32) (Code_args : Nat → Int32) (Linker_waiting : Nat → Int32) (Linker_open : Int32) (Linker_openLoops : Int32) (H : Heap) (locs : List Loc) (ls : Array Slot), k15 x2 x3 x4 Code_args Linker_waiting Linker_open Linker_openLoops = some (rr, w_Code_args, w_Linker_waiting, w_Linker_open, w_Linker_openLoops) → va_P (dC, dI) vwCl [(aCode, .inr (0, [.ref aCode_ops, .ref aCode_args])), (aCode_ops, .inl (cI, 200, .inl Code_ops)), (aCode_args, .inl (cI, 200, .inl Code_args)), (aLinker, .inr (2, [.ref aCode, .ref aLinker_waiting, .int Linker_open, .int Linker_openLoops])), (aLinker_waiting, .inl (cI, 8, .inl Linker_waiting))] H → va_D A [(aCode, .inr (0, [.ref aCode_ops, .ref aCode_args])), (aCode_ops, .inl (cI, 200, .inl Code_ops)), (aCode_args, .inl (cI, 200, .inl Code_args)), (aLinker, .inr (2, [.ref aCode, .ref aLinker_waiting, .int Linker_open, .int Linker_openLoops])), (aLinker_waiting, .inl (cI, 8, .inl Linker_waiting))] → va_S A s.heap H locs → lv_has ls 6 [(2, .int x2), (3, .int x3), (4, .int x4), (0, .ref aLinker)] → W p l e rmX2_link s m args below meth c H locs 0 0 Q (F0 m 15 ls [])) → ∀ (x2 : Int32) (x3 : Int32) (x4 : Int32) (Code_args : Nat → Int32) (Linker_waiting : Nat → Int32) (Linker_open : Int32) (Linker_openLoops : Int32) (H : Heap) (locs : List Loc) (ls : Array Slot), fnX2_link_148 Code_ops k15 x2 x3 x4 Code_args Linker_waiting Linker_open Linker_openLoops = some (rr, w_Code_args, w_Linker_waiting, w_Linker_open, w_Linker_openLoops) → va_P (dC, dI) vwCl [(aCode, .inr (0, [.ref aCode_ops, .ref aCode_args])), (aCode_ops, .inl (cI, 200, .inl Code_ops)), (aCode_args, .inl (cI, 200, .inl Code_args)), (aLinker, .inr (2, [.ref aCode, .ref aLinker_waiting, .int Linker_open, .int Linker_openLoops])), (aLinker_waiting, .inl (cI, 8, .inl Linker_waiting))] H → va_D A [(aCode, .inr (0, [.ref aCode_ops, .ref aCode_args])), (aCode_ops, .inl (cI, 200, .inl Code_ops)), (aCode_args, .inl (cI, 200, .inl Code_args)), (aLinker, .inr (2, [.ref aCode, .ref aLinker_waiting, .int Linker_open, .int Linker_openLoops])), (aLinker_waiting, .inl (cI, 8, .inl Linker_waiting))] → va_S A s.heap H locs → lv_has ls 6 [(2, .int x2), (3, .int x3), (4, .int x4), (0, .ref aLinker)] → W p l e rmX2_link s m args below meth c H locs 0 0 Q (F0 m 148 ls []) := by
    intro k15 hk15 x2 x3 x4 Code_args Linker_waiting Linker_open Linker_openLoops H locs ls h hP hD hS hl
    unfold fnX2_link_148 at h
    refine lv_iinc (v := x4 + (1 : Int32)) (lv' := [(4, .int (x4 + (1 : Int32))), (2, .int x2), (3, .int x3), (0, .ref aLinker)]) hx hb dX2_link_148 hl (k := 2) rfl rfl (by decide) rfl (fun ls hl => ?_)
    refine lv_goto (tgt := 15) hx hb dX2_link_151 (by decide) ?_
    exact hk15 x2 x3 (x4 + (1 : Int32)) Code_args Linker_waiting Linker_open Linker_openLoops _ _ _ h hP hD hS (lv_sub hl [1, 2, 0, 3] rfl)
  have hj_96 : ∀ (k15 : Int32 → Int32 → Int32 → (Nat → Int32) → (Nat → Int32) → Int32 → Int32 → Option (Int32 × (Nat → Int32) × (Nat → Int32) × Int32 × Int32)), (∀ (x2 : Int32) (x3 : Int32) (x4 : Int32) (Code_args : Nat → Int32) (Linker_waiting : Nat → Int32) (Linker_open : Int32) (Linker_openLoops : Int32) (H : Heap) (locs : List Loc) (ls : Array Slot), k15 x2 x3 x4 Code_args Linker_waiting Linker_open Linker_openLoops = some (rr, w_Code_args, w_Linker_waiting, w_Linker_open, w_Linker_openLoops) → va_P (dC, dI) vwCl [(aCode, .inr (0, [.ref aCode_ops, .ref aCode_args])), (aCode_ops, .inl (cI, 200, .inl Code_ops)), (aCode_args, .inl (cI, 200, .inl Code_args)), (aLinker, .inr (2, [.ref aCode, .ref aLinker_waiting, .int Linker_open, .int Linker_openLoops])), (aLinker_waiting, .inl (cI, 8, .inl Linker_waiting))] H → va_D A [(aCode, .inr (0, [.ref aCode_ops, .ref aCode_args])), (aCode_ops, .inl (cI, 200, .inl Code_ops)), (aCode_args, .inl (cI, 200, .inl Code_args)), (aLinker, .inr (2, [.ref aCode, .ref aLinker_waiting, .int Linker_open, .int Linker_openLoops])), (aLinker_waiting, .inl (cI, 8, .inl Linker_waiting))] → va_S A s.heap H locs → lv_has ls 6 [(2, .int x2), (3, .int x3), (4, .int x4), (0, .ref aLinker)] → W p l e rmX2_link s m args below meth c H locs 0 0 Q (F0 m 15 ls [])) → ∀ (x2 : Int32) (x4 : Int32) (x5 : Int32) (Code_args : Nat → Int32) (Linker_waiting : Nat → Int32) (Linker_open : Int32) (Linker_openLoops : Int32) (H : Heap) (locs : List Loc) (ls : Array Slot), fnX2_link_96 Code_ops k15 x2 x4 x5 Code_args Linker_waiting Linker_open Linker_openLoops = some (rr, w_Code_args, w_Linker_waiting, w_Linker_open, w_Linker_openLoops) → va_P (dC, dI) vwCl [(aCode, .inr (0, [.ref aCode_ops, .ref aCode_args])), (aCode_ops, .inl (cI, 200, .inl Code_ops)), (aCode_args, .inl (cI, 200, .inl Code_args)), (aLinker, .inr (2, [.ref aCode, .ref aLinker_waiting, .int Linker_open, .int Linker_openLoops])), (aLinker_waiting, .inl (cI, 8, .inl Linker_waiting))] H → va_D A [(aCode, .inr (0, [.ref aCode_ops, .ref aCode_args])), (aCode_ops, .inl (cI, 200, .inl Code_ops)), (aCode_args, .inl (cI, 200, .inl Code_args)), (aLinker, .inr (2, [.ref aCode, .ref aLinker_waiting, .int Linker_open, .int Linker_openLoops])), (aLinker_waiting, .inl (cI, 8, .inl Linker_waiting))] → va_S A s.heap H locs → lv_has ls 6 [(2, .int x2), (4, .int x4), (5, .int x5), (0, .ref aLinker)] → W p l e rmX2_link s m args below meth c H locs 0 0 Q (F0 m 96 ls []) := by
    intro k15 hk15 x2 x4 x5 Code_args Linker_waiting Linker_open Linker_openLoops H locs ls h hP hD hS hl
    unfold fnX2_link_96 at h
    refine lv_aload_n hx hb dX2_link_96 rfl (lv_at hl 3 rfl) ?_
    refine lv_iload hx hb dX2_link_97 (lv_at hl 1 rfl) ?_
    refine lv_iload hx hb dX2_link_99 (lv_at hl 2 rfl) ?_
    obtain ⟨r_1, Linker_waiting_1, Linker_open_1, Linker_openLoops_1, hc_1, h⟩ := bd4_some h
    have hPc := hP.sub (ws' := [(aLinker, .inr (2, [.ref aCode, .ref aLinker_waiting, .int Linker_open, .int Linker_openLoops])), (aLinker_waiting, .inl (cI, 8, .inl Linker_waiting))]) [3, 4] rfl
    have hDc := hD.sub (ws' := [(aLinker, .inr (2, [.ref aCode, .ref aLinker_waiting, .int Linker_open, .int Linker_openLoops])), (aLinker_waiting, .inl (cI, 8, .inl Linker_waiting))]) [3, 4] (by decide) rfl
    have hFc := va_free (wc := [(aLinker, .inr (2, [.ref aCode, .ref aLinker_waiting, .int Linker_open, .int Linker_openLoops])), (aLinker_waiting, .inl (cI, 8, .inl Linker_waiting))]) hD hS hA [3, 4] rfl
    refine va_calli (va_runV (As := [.int x4, .int x5]) (rest := []) ⟨hx, hb, hml, hown, hts⟩ (ctX2_begin l dC dI cI cC cJ aLinker aCode aLinker_waiting _ Linker_waiting Linker_open Linker_openLoops x4 x5 r_1 Linker_waiting_1 Linker_open_1 Linker_openLoops_1 hc_1) (cwV 2 hts (gV_ hc_ mw_37 mw_38 mw_39 mw_40 mw_41) rfl rfl rfl (by decide +kernel) ⟨Nat.le_of_ble_eq_true rfl, Nat.le_of_ble_eq_true rfl⟩) ⟨fun a U g mk q => by obtain ⟨q0, q1, qP, qK, qD⟩ := q; exact ⟨q0, q1, qP, va_K.moved (u := U) (U := U.calling g mk a) (Vm.Alike.refl U.vm) qK, qD⟩, va_recv hK hPc (ci := 2) (q0 := 0) rfl rfl, fun U hU hW => ⟨rfl, by rw [hU], by rw [hU]; exact hPc, va_K.moved hW.alike hK, hDc.weaken (fun _ _ _ _ => trivial)⟩⟩ rfl rfl hl.1 rfl (lv_room (Nat.le_of_ble_eq_true rfl)) dX2_link_101 ⟨Nat.zero_le _, Nat.zero_le _⟩) hS (fun q _ h => hFc q h) hFc (fun r_1 u t H1 locs ht hvm hw hB hz1 hk1 hS => ?_)
    obtain ⟨hP1, hK1, hD1⟩ := hB
    rw [ht] at hP1
    subst hw
    obtain ⟨hP, hD⟩ := va_join (wr := [(aCode, .inr (0, [.ref aCode_ops, .ref aCode_args])), (aCode_ops, .inl (cI, 200, .inl Code_ops)), (aCode_args, .inl (cI, 200, .inl Code_args))]) (w1 := [(aLinker, .inr (2, [.ref aCode, .ref aLinker_waiting, .int Linker_open_1, .int Linker_openLoops_1])), (aLinker_waiting, .inl (cI, 8, .inl Linker_waiting_1))]) hP hD [3, 4] [0, 1, 2] rfl rfl (by decide) (by decide) hk1 hFc hP1 hD1
    generalize H1 = H at hP hS ⊢
    have hP : va_P (dC, dI) vwCl [(aCode, .inr (0, [.ref aCode_ops, .ref aCode_args])), (aCode_ops, .inl (cI, 200, .inl Code_ops)), (aCode_args, .inl (cI, 200, .inl Code_args)), (aLinker, .inr (2, [.ref aCode, .ref aLinker_waiting, .int Linker_open_1, .int Linker_openLoops_1])), (aLinker_waiting, .inl (cI, 8, .inl Linker_waiting_1))] H := hP
    have hD : va_D A [(aCode, .inr (0, [.ref aCode_ops, .ref aCode_args])), (aCode_ops, .inl (cI, 200, .inl Code_ops)), (aCode_args, .inl (cI, 200, .inl Code_args)), (aLinker, .inr (2, [.ref aCode, .ref aLinker_waiting, .int Linker_open_1, .int Linker_openLoops_1])), (aLinker_waiting, .inl (cI, 8, .inl Linker_waiting_1))] := hD
    refine lv_istore_n (lv' := [(3, .int r_1), (2, .int x2), (4, .int x4), (5, .int x5), (0, .ref aLinker)]) hx hb dX2_link_104 rfl hl (by decide) rfl (fun ls hl => ?_)
    refine lv_goto (tgt := 148) hx hb dX2_link_105 (by decide) ?_
    exact hj_148 k15 hk15 x2 r_1 x4 Code_args Linker_waiting_1 Linker_open_1 Linker_openLoops_1 _ _ _ h hP hD hS (lv_sub hl [1, 0, 2, 4] rfl)
  have hj_108 : ∀ (k15 : Int32 → Int32 → Int32 → (Nat → Int32) → (Nat → Int32) → Int32 → Int32 → Option (Int32 × (Nat → Int32) × (Nat → Int32) × Int32 × Int32)), (∀ (x2 : Int32) (x3 : Int32) (x4 : Int32) (Code_args : Nat → Int32) (Linker_waiting : Nat → Int32) (Linker_open : Int32) (Linker_openLoops : Int32) (H : Heap) (locs : List Loc) (ls : Array Slot), k15 x2 x3 x4 Code_args Linker_waiting Linker_open Linker_openLoops = some (rr, w_Code_args, w_Linker_waiting, w_Linker_open, w_Linker_openLoops) → va_P (dC, dI) vwCl [(aCode, .inr (0, [.ref aCode_ops, .ref aCode_args])), (aCode_ops, .inl (cI, 200, .inl Code_ops)), (aCode_args, .inl (cI, 200, .inl Code_args)), (aLinker, .inr (2, [.ref aCode, .ref aLinker_waiting, .int Linker_open, .int Linker_openLoops])), (aLinker_waiting, .inl (cI, 8, .inl Linker_waiting))] H → va_D A [(aCode, .inr (0, [.ref aCode_ops, .ref aCode_args])), (aCode_ops, .inl (cI, 200, .inl Code_ops)), (aCode_args, .inl (cI, 200, .inl Code_args)), (aLinker, .inr (2, [.ref aCode, .ref aLinker_waiting, .int Linker_open, .int Linker_openLoops])), (aLinker_waiting, .inl (cI, 8, .inl Linker_waiting))] → va_S A s.heap H locs → lv_has ls 6 [(2, .int x2), (3, .int x3), (4, .int x4), (0, .ref aLinker)] → W p l e rmX2_link s m args below meth c H locs 0 0 Q (F0 m 15 ls [])) → ∀ (x2 : Int32) (x4 : Int32) (x5 : Int32) (Code_args : Nat → Int32) (Linker_waiting : Nat → Int32) (Linker_open : Int32) (Linker_openLoops : Int32) (H : Heap) (locs : List Loc) (ls : Array Slot), fnX2_link_108 Code_ops k15 x2 x4 x5 Code_args Linker_waiting Linker_open Linker_openLoops = some (rr, w_Code_args, w_Linker_waiting, w_Linker_open, w_Linker_openLoops) → va_P (dC, dI) vwCl [(aCode, .inr (0, [.ref aCode_ops, .ref aCode_args])), (aCode_ops, .inl (cI, 200, .inl Code_ops)), (aCode_args, .inl (cI, 200, .inl Code_args)), (aLinker, .inr (2, [.ref aCode, .ref aLinker_waiting, .int Linker_open, .int Linker_openLoops])), (aLinker_waiting, .inl (cI, 8, .inl Linker_waiting))] H → va_D A [(aCode, .inr (0, [.ref aCode_ops, .ref aCode_args])), (aCode_ops, .inl (cI, 200, .inl Code_ops)), (aCode_args, .inl (cI, 200, .inl Code_args)), (aLinker, .inr (2, [.ref aCode, .ref aLinker_waiting, .int Linker_open, .int Linker_openLoops])), (aLinker_waiting, .inl (cI, 8, .inl Linker_waiting))] → va_S A s.heap H locs → lv_has ls 6 [(2, .int x2), (4, .int x4), (5, .int x5), (0, .ref aLinker)] → W p l e rmX2_link s m args below meth c H locs 0 0 Q (F0 m 108 ls []) := by
    intro k15 hk15 x2 x4 x5 Code_args Linker_waiting Linker_open Linker_openLoops H locs ls h hP hD hS hl
    unfold fnX2_link_108 at h
    refine lv_aload_n hx hb dX2_link_108 rfl (lv_at hl 3 rfl) ?_
    refine lv_iload hx hb dX2_link_109 (lv_at hl 1 rfl) ?_
    refine lv_iload hx hb dX2_link_111 (lv_at hl 2 rfl) ?_
    obtain ⟨r_2, Code_args_2, Linker_waiting_2, hc_2, h⟩ := bd3_some h
    have hPc := hP.sub (ws' := [(aCode, .inr (0, [.ref aCode_ops, .ref aCode_args])), (aCode_ops, .inl (cI, 200, .inl Code_ops)), (aCode_args, .inl (cI, 200, .inl Code_args)), (aLinker, .inr (2, [.ref aCode, .ref aLinker_waiting, .int Linker_open, .int Linker_openLoops])), (aLinker_waiting, .inl (cI, 8, .inl Linker_waiting))]) [0, 1, 2, 3, 4] rfl
    have hDc := hD.sub (ws' := [(aCode, .inr (0, [.ref aCode_ops, .ref aCode_args])), (aCode_ops, .inl (cI, 200, .inl Code_ops)), (aCode_args, .inl (cI, 200, .inl Code_args)), (aLinker, .inr (2, [.ref aCode, .ref aLinker_waiting, .int Linker_open, .int Linker_openLoops])), (aLinker_waiting, .inl (cI, 8, .inl Linker_waiting))]) [0, 1, 2, 3, 4] (by decide) rfl
    have hFc := va_free (wc := [(aCode, .inr (0, [.ref aCode_ops, .ref aCode_args])), (aCode_ops, .inl (cI, 200, .inl Code_ops)), (aCode_args, .inl (cI, 200, .inl Code_args)), (aLinker, .inr (2, [.ref aCode, .ref aLinker_waiting, .int Linker_open, .int Linker_openLoops])), (aLinker_waiting, .inl (cI, 8, .inl Linker_waiting))]) hD hS hA [0, 1, 2, 3, 4] rfl
    refine va_calli (va_runV (As := [.int x4, .int x5]) (rest := []) ⟨hx, hb, hml, hown, hts⟩ (ctX2_divide l dC dI cI cC cJ aCode aCode_ops aCode_args aLinker aLinker_waiting _ Code_ops Code_args Linker_waiting Linker_open Linker_openLoops x4 x5 r_2 Code_args_2 Linker_waiting_2 hc_2) (cwV 2 hts (gV_ hc_ mw_42 mw_43 mw_44 mw_40 mw_45) rfl rfl rfl (by decide +kernel) ⟨Nat.le_of_ble_eq_true rfl, Nat.le_of_ble_eq_true rfl⟩) ⟨fun a U g mk q => by obtain ⟨q0, q1, qP, qK, qD⟩ := q; exact ⟨q0, q1, qP, va_K.moved (u := U) (U := U.calling g mk a) (Vm.Alike.refl U.vm) qK, qD⟩, va_recv hK hPc (ci := 2) (q0 := 3) rfl rfl, fun U hU hW => ⟨rfl, by rw [hU], by rw [hU]; exact hPc, va_K.moved hW.alike hK, hDc.weaken (fun _ _ _ _ => trivial)⟩⟩ rfl rfl hl.1 rfl (lv_room (Nat.le_of_ble_eq_true rfl)) dX2_link_113 ⟨Nat.zero_le _, Nat.zero_le _⟩) hS (fun q _ h => hFc q h) hFc (fun r_2 u t H1 locs ht hvm hw hB hz1 hk1 hS => ?_)
    obtain ⟨hP1, hK1, hD1⟩ := hB
    rw [ht] at hP1
    subst hw
    obtain ⟨hP, hD⟩ := va_join (wr := []) (w1 := [(aCode, .inr (0, [.ref aCode_ops, .ref aCode_args])), (aCode_ops, .inl (cI, 200, .inl Code_ops)), (aCode_args, .inl (cI, 200, .inl Code_args_2)), (aLinker, .inr (2, [.ref aCode, .ref aLinker_waiting, .int Linker_open, .int Linker_openLoops])), (aLinker_waiting, .inl (cI, 8, .inl Linker_waiting_2))]) hP hD [0, 1, 2, 3, 4] [] rfl rfl (by decide) (by decide) hk1 hFc hP1 hD1
    generalize H1 = H at hP hS ⊢
    have hP : va_P (dC, dI) vwCl [(aCode, .inr (0, [.ref aCode_ops, .ref aCode_args])), (aCode_ops, .inl (cI, 200, .inl Code_ops)), (aCode_args, .inl (cI, 200, .inl Code_args_2)), (aLinker, .inr (2, [.ref aCode, .ref aLinker_waiting, .int Linker_open, .int Linker_openLoops])), (aLinker_waiting, .inl (cI, 8, .inl Linker_waiting_2))] H := hP
    have hD : va_D A [(aCode, .inr (0, [.ref aCode_ops, .ref aCode_args])), (aCode_ops, .inl (cI, 200, .inl Code_ops)), (aCode_args, .inl (cI, 200, .inl Code_args_2)), (aLinker, .inr (2, [.ref aCode, .ref aLinker_waiting, .int Linker_open, .int Linker_openLoops])), (aLinker_waiting, .inl (cI, 8, .inl Linker_waiting_2))] := hD
    refine lv_istore_n (lv' := [(3, .int r_2), (2, .int x2), (4, .int x4), (5, .int x5), (0, .ref aLinker)]) hx hb dX2_link_116 rfl hl (by decide) rfl (fun ls hl => ?_)
    refine lv_goto (tgt := 148) hx hb dX2_link_117 (by decide) ?_
    exact hj_148 k15 hk15 x2 r_2 x4 Code_args_2 Linker_waiting_2 Linker_open Linker_openLoops _ _ _ h hP hD hS (lv_sub hl [1, 0, 2, 4] rfl)
  have hj_120 : ∀ (k15 : Int32 → Int32 → Int32 → (Nat → Int32) → (Nat → Int32) → Int32 → Int32 → Option (Int32 × (Nat → Int32) × (Nat → Int32) × Int32 × Int32)), (∀ (x2 : Int32) (x3 : Int32) (x4 : Int32) (Code_args : Nat → Int32) (Linker_waiting : Nat → Int32) (Linker_open : Int32) (Linker_openLoops : Int32) (H : Heap) (locs : List Loc) (ls : Array Slot), k15 x2 x3 x4 Code_args Linker_waiting Linker_open Linker_openLoops = some (rr, w_Code_args, w_Linker_waiting, w_Linker_open, w_Linker_openLoops) → va_P (dC, dI) vwCl [(aCode, .inr (0, [.ref aCode_ops, .ref aCode_args])), (aCode_ops, .inl (cI, 200, .inl Code_ops)), (aCode_args, .inl (cI, 200, .inl Code_args)), (aLinker, .inr (2, [.ref aCode, .ref aLinker_waiting, .int Linker_open, .int Linker_openLoops])), (aLinker_waiting, .inl (cI, 8, .inl Linker_waiting))] H → va_D A [(aCode, .inr (0, [.ref aCode_ops, .ref aCode_args])), (aCode_ops, .inl (cI, 200, .inl Code_ops)), (aCode_args, .inl (cI, 200, .inl Code_args)), (aLinker, .inr (2, [.ref aCode, .ref aLinker_waiting, .int Linker_open, .int Linker_openLoops])), (aLinker_waiting, .inl (cI, 8, .inl Linker_waiting))] → va_S A s.heap H locs → lv_has ls 6 [(2, .int x2), (3, .int x3), (4, .int x4), (0, .ref aLinker)] → W p l e rmX2_link s m args below meth c H locs 0 0 Q (F0 m 15 ls [])) → ∀ (x2 : Int32) (x4 : Int32) (x5 : Int32) (Code_args : Nat → Int32) (Linker_waiting : Nat → Int32) (Linker_open : Int32) (Linker_openLoops : Int32) (H : Heap) (locs : List Loc) (ls : Array Slot), fnX2_link_120 Code_ops k15 x2 x4 x5 Code_args Linker_waiting Linker_open Linker_openLoops = some (rr, w_Code_args, w_Linker_waiting, w_Linker_open, w_Linker_openLoops) → va_P (dC, dI) vwCl [(aCode, .inr (0, [.ref aCode_ops, .ref aCode_args])), (aCode_ops, .inl (cI, 200, .inl Code_ops)), (aCode_args, .inl (cI, 200, .inl Code_args)), (aLinker, .inr (2, [.ref aCode, .ref aLinker_waiting, .int Linker_open, .int Linker_openLoops])), (aLinker_waiting, .inl (cI, 8, .inl Linker_waiting))] H → va_D A [(aCode, .inr (0, [.ref aCode_ops, .ref aCode_args])), (aCode_ops, .inl (cI, 200, .inl Code_ops)), (aCode_args, .inl (cI, 200, .inl Code_args)), (aLinker, .inr (2, [.ref aCode, .ref aLinker_waiting, .int Linker_open, .int Linker_openLoops])), (aLinker_waiting, .inl (cI, 8, .inl Linker_waiting))] → va_S A s.heap H locs → lv_has ls 6 [(2, .int x2), (4, .int x4), (5, .int x5), (0, .ref aLinker)] → W p l e rmX2_link s m args below meth c H locs 0 0 Q (F0 m 120 ls []) := by
    intro k15 hk15 x2 x4 x5 Code_args Linker_waiting Linker_open Linker_openLoops H locs ls h hP hD hS hl
    unfold fnX2_link_120 at h
    refine lv_aload_n hx hb dX2_link_120 rfl (lv_at hl 3 rfl) ?_
    refine lv_iload hx hb dX2_link_121 (lv_at hl 1 rfl) ?_
    refine lv_iload hx hb dX2_link_123 (lv_at hl 2 rfl) ?_
    obtain ⟨r_3, Code_args_3, Linker_open_3, Linker_openLoops_3, hc_3, h⟩ := bd4_some h
    have hPc := hP.sub (ws' := [(aCode, .inr (0, [.ref aCode_ops, .ref aCode_args])), (aCode_ops, .inl (cI, 200, .inl Code_ops)), (aCode_args, .inl (cI, 200, .inl Code_args)), (aLinker, .inr (2, [.ref aCode, .ref aLinker_waiting, .int Linker_open, .int Linker_openLoops])), (aLinker_waiting, .inl (cI, 8, .inl Linker_waiting))]) [0, 1, 2, 3, 4] rfl
    have hDc := hD.sub (ws' := [(aCode, .inr (0, [.ref aCode_ops, .ref aCode_args])), (aCode_ops, .inl (cI, 200, .inl Code_ops)), (aCode_args, .inl (cI, 200, .inl Code_args)), (aLinker, .inr (2, [.ref aCode, .ref aLinker_waiting, .int Linker_open, .int Linker_openLoops])), (aLinker_waiting, .inl (cI, 8, .inl Linker_waiting))]) [0, 1, 2, 3, 4] (by decide) rfl
    have hFc := va_free (wc := [(aCode, .inr (0, [.ref aCode_ops, .ref aCode_args])), (aCode_ops, .inl (cI, 200, .inl Code_ops)), (aCode_args, .inl (cI, 200, .inl Code_args)), (aLinker, .inr (2, [.ref aCode, .ref aLinker_waiting, .int Linker_open, .int Linker_openLoops])), (aLinker_waiting, .inl (cI, 8, .inl Linker_waiting))]) hD hS hA [0, 1, 2, 3, 4] rfl
    refine va_calli (va_runV (As := [.int x4, .int x5]) (rest := []) ⟨hx, hb, hml, hown, hts⟩ (ctX2_close l dC dI cI cC cJ aCode aCode_ops aCode_args aLinker aLinker_waiting _ Code_ops Code_args Linker_waiting Linker_open Linker_openLoops x4 x5 r_3 Code_args_3 Linker_open_3 Linker_openLoops_3 hc_3) (cwV 2 hts (gV_ hc_ mw_46 mw_47 mw_48 mw_40 mw_49) rfl rfl rfl (by decide +kernel) ⟨Nat.le_of_ble_eq_true rfl, Nat.le_of_ble_eq_true rfl⟩) ⟨fun a U g mk q => by obtain ⟨q0, q1, qP, qK, qD⟩ := q; exact ⟨q0, q1, qP, va_K.moved (u := U) (U := U.calling g mk a) (Vm.Alike.refl U.vm) qK, qD⟩, va_recv hK hPc (ci := 2) (q0 := 3) rfl rfl, fun U hU hW => ⟨rfl, by rw [hU], by rw [hU]; exact hPc, va_K.moved hW.alike hK, hDc.weaken (fun _ _ _ _ => trivial)⟩⟩ rfl rfl hl.1 rfl (lv_room (Nat.le_of_ble_eq_true rfl)) dX2_link_125 ⟨Nat.zero_le _, Nat.zero_le _⟩) hS (fun q _ h => hFc q h) hFc (fun r_3 u t H1 locs ht hvm hw hB hz1 hk1 hS => ?_)
    obtain ⟨hP1, hK1, hD1⟩ := hB
    rw [ht] at hP1
    subst hw
    obtain ⟨hP, hD⟩ := va_join (wr := []) (w1 := [(aCode, .inr (0, [.ref aCode_ops, .ref aCode_args])), (aCode_ops, .inl (cI, 200, .inl Code_ops)), (aCode_args, .inl (cI, 200, .inl Code_args_3)), (aLinker, .inr (2, [.ref aCode, .ref aLinker_waiting, .int Linker_open_3, .int Linker_openLoops_3])), (aLinker_waiting, .inl (cI, 8, .inl Linker_waiting))]) hP hD [0, 1, 2, 3, 4] [] rfl rfl (by decide) (by decide) hk1 hFc hP1 hD1
    generalize H1 = H at hP hS ⊢
    have hP : va_P (dC, dI) vwCl [(aCode, .inr (0, [.ref aCode_ops, .ref aCode_args])), (aCode_ops, .inl (cI, 200, .inl Code_ops)), (aCode_args, .inl (cI, 200, .inl Code_args_3)), (aLinker, .inr (2, [.ref aCode, .ref aLinker_waiting, .int Linker_open_3, .int Linker_openLoops_3])), (aLinker_waiting, .inl (cI, 8, .inl Linker_waiting))] H := hP
    have hD : va_D A [(aCode, .inr (0, [.ref aCode_ops, .ref aCode_args])), (aCode_ops, .inl (cI, 200, .inl Code_ops)), (aCode_args, .inl (cI, 200, .inl Code_args_3)), (aLinker, .inr (2, [.ref aCode, .ref aLinker_waiting, .int Linker_open_3, .int Linker_openLoops_3])), (aLinker_waiting, .inl (cI, 8, .inl Linker_waiting))] := hD
    refine lv_istore_n (lv' := [(3, .int r_3), (2, .int x2), (4, .int x4), (5, .int x5), (0, .ref aLinker)]) hx hb dX2_link_128 rfl hl (by decide) rfl (fun ls hl => ?_)
    refine lv_goto (tgt := 148) hx hb dX2_link_129 (by decide) ?_
    exact hj_148 k15 hk15 x2 r_3 x4 Code_args_3 Linker_waiting Linker_open_3 Linker_openLoops_3 _ _ _ h hP hD hS (lv_sub hl [1, 0, 2, 4] rfl)
  have hj_144 : ∀ (k15 : Int32 → Int32 → Int32 → (Nat → Int32) → (Nat → Int32) → Int32 → Int32 → Option (Int32 × (Nat → Int32) × (Nat → Int32) × Int32 × Int32)), (∀ (x2 : Int32) (x3 : Int32) (x4 : Int32) (Code_args : Nat → Int32) (Linker_waiting : Nat → Int32) (Linker_open : Int32) (Linker_openLoops : Int32) (H : Heap) (locs : List Loc) (ls : Array Slot), k15 x2 x3 x4 Code_args Linker_waiting Linker_open Linker_openLoops = some (rr, w_Code_args, w_Linker_waiting, w_Linker_open, w_Linker_openLoops) → va_P (dC, dI) vwCl [(aCode, .inr (0, [.ref aCode_ops, .ref aCode_args])), (aCode_ops, .inl (cI, 200, .inl Code_ops)), (aCode_args, .inl (cI, 200, .inl Code_args)), (aLinker, .inr (2, [.ref aCode, .ref aLinker_waiting, .int Linker_open, .int Linker_openLoops])), (aLinker_waiting, .inl (cI, 8, .inl Linker_waiting))] H → va_D A [(aCode, .inr (0, [.ref aCode_ops, .ref aCode_args])), (aCode_ops, .inl (cI, 200, .inl Code_ops)), (aCode_args, .inl (cI, 200, .inl Code_args)), (aLinker, .inr (2, [.ref aCode, .ref aLinker_waiting, .int Linker_open, .int Linker_openLoops])), (aLinker_waiting, .inl (cI, 8, .inl Linker_waiting))] → va_S A s.heap H locs → lv_has ls 6 [(2, .int x2), (3, .int x3), (4, .int x4), (0, .ref aLinker)] → W p l e rmX2_link s m args below meth c H locs 0 0 Q (F0 m 15 ls [])) → ∀ (x2 : Int32) (x4 : Int32) (z0 : Int32) (Code_args : Nat → Int32) (Linker_waiting : Nat → Int32) (Linker_open : Int32) (Linker_openLoops : Int32) (H : Heap) (locs : List Loc) (ls : Array Slot), fnX2_link_144 Code_ops k15 x2 x4 z0 Code_args Linker_waiting Linker_open Linker_openLoops = some (rr, w_Code_args, w_Linker_waiting, w_Linker_open, w_Linker_openLoops) → va_P (dC, dI) vwCl [(aCode, .inr (0, [.ref aCode_ops, .ref aCode_args])), (aCode_ops, .inl (cI, 200, .inl Code_ops)), (aCode_args, .inl (cI, 200, .inl Code_args)), (aLinker, .inr (2, [.ref aCode, .ref aLinker_waiting, .int Linker_open, .int Linker_openLoops])), (aLinker_waiting, .inl (cI, 8, .inl Linker_waiting))] H → va_D A [(aCode, .inr (0, [.ref aCode_ops, .ref aCode_args])), (aCode_ops, .inl (cI, 200, .inl Code_ops)), (aCode_args, .inl (cI, 200, .inl Code_args)), (aLinker, .inr (2, [.ref aCode, .ref aLinker_waiting, .int Linker_open, .int Linker_openLoops])), (aLinker_waiting, .inl (cI, 8, .inl Linker_waiting))] → va_S A s.heap H locs → lv_has ls 6 [(2, .int x2), (4, .int x4), (0, .ref aLinker)] → W p l e rmX2_link s m args below meth c H locs 0 0 Q (F0 m 144 ls [.int z0]) := by
    intro k15 hk15 x2 x4 z0 Code_args Linker_waiting Linker_open Linker_openLoops H locs ls h hP hD hS hl
    unfold fnX2_link_144 at h
    refine lv_istore_n (lv' := [(3, .int z0), (2, .int x2), (4, .int x4), (0, .ref aLinker)]) hx hb dX2_link_144 rfl hl (by decide) rfl (fun ls hl => ?_)
    refine lv_goto (tgt := 148) hx hb dX2_link_145 (by decide) ?_
    exact hj_148 k15 hk15 x2 z0 x4 Code_args Linker_waiting Linker_open Linker_openLoops _ _ _ h hP hD hS (lv_sub hl [1, 0, 2, 3] rfl)
  have hj_154 : ∀ (x3 : Int32) (Code_args : Nat → Int32) (Linker_waiting : Nat → Int32) (Linker_open : Int32) (Linker_openLoops : Int32) (H : Heap) (locs : List Loc) (ls : Array Slot), fnX2_link_154 Code_ops x3 Code_args Linker_waiting Linker_open Linker_openLoops = some (rr, w_Code_args, w_Linker_waiting, w_Linker_open, w_Linker_openLoops) → va_P (dC, dI) vwCl [(aCode, .inr (0, [.ref aCode_ops, .ref aCode_args])), (aCode_ops, .inl (cI, 200, .inl Code_ops)), (aCode_args, .inl (cI, 200, .inl Code_args)), (aLinker, .inr (2, [.ref aCode, .ref aLinker_waiting, .int Linker_open, .int Linker_openLoops])), (aLinker_waiting, .inl (cI, 8, .inl Linker_waiting))] H → va_D A [(aCode, .inr (0, [.ref aCode_ops, .ref aCode_args])), (aCode_ops, .inl (cI, 200, .inl Code_ops)), (aCode_args, .inl (cI, 200, .inl Code_args)), (aLinker, .inr (2, [.ref aCode, .ref aLinker_waiting, .int Linker_open, .int Linker_openLoops])), (aLinker_waiting, .inl (cI, 8, .inl Linker_waiting))] → va_S A s.heap H locs → lv_has ls 6 [(3, .int x3), (0, .ref aLinker)] → W p l e rmX2_link s m args below meth c H locs 0 0 Q (F0 m 154 ls []) := by
    intro x3 Code_args Linker_waiting Linker_open Linker_openLoops H locs ls h hP hD hS hl
    unfold fnX2_link_154 at h
    refine lv_iload_n hx hb dX2_link_154 rfl (lv_at hl 0 rfl) ?_
    refine lv_if_eq (tgt := 169) hx hb dX2_link_155 (by decide) (fun c_4 => ?_) (fun c_4 => ?_)
    · have h := it_t c_4 h
      refine lv_iconst (v := (0 : Int32)) hx hb dX2_link_169 (by decide) ?_
      cases h
      rw [hQ]
      exact W.zret (ty := .boolean) hx hb hr rfl (fun t ht hW => ⟨⟨_, (), rfl, rfl, by rw [ht]; exact hP, va_K.moved hW.alike hK, hD⟩, hS.F ht⟩) hS.2.2 dX2_link_170
    · have h := it_f c_4 h
      refine lv_aload_n hx hb dX2_link_158 rfl (lv_at hl 1 rfl) ?_
      refine va_get (D := (dC, dI)) (ci := 2) (v := .int Linker_open) (C := RX2) (T := TX2) (N := 4) hx hb hts (fun w h => List.mem_cons_of_mem _ (inX2 w h)) hown hK hP 3 rfl rfl 2 (by decide) (hts _ (List.mem_cons_of_mem _ mw_21)) (fun _ h9 => h9) rfl dX2_link_159 ?_
      refine lv_if_ne (tgt := 169) hx hb dX2_link_162 (by decide) (fun c_5 => ?_) (fun c_5 => ?_)
      · have h := it_f c_5 h
        refine lv_iconst (v := (0 : Int32)) hx hb dX2_link_169 (by decide) ?_
        cases h
        rw [hQ]
        exact W.zret (ty := .boolean) hx hb hr rfl (fun t ht hW => ⟨⟨_, (), rfl, rfl, by rw [ht]; exact hP, va_K.moved hW.alike hK, hD⟩, hS.F ht⟩) hS.2.2 dX2_link_170
      · have h := it_t c_5 h
        refine lv_iconst (v := (1 : Int32)) hx hb dX2_link_165 (by decide) ?_
        refine lv_goto (tgt := 170) hx hb dX2_link_166 (by decide) ?_
        cases h
        rw [hQ]
        exact W.zret (ty := .boolean) hx hb hr rfl (fun t ht hW => ⟨⟨_, (), rfl, rfl, by rw [ht]; exact hP, va_K.moved hW.alike hK, hD⟩, hS.F ht⟩) hS.2.2 dX2_link_170
  have hj_15 : ∀ (n : Nat), ∀ (x2 : Int32) (x3 : Int32) (x4 : Int32) (Code_args : Nat → Int32) (Linker_waiting : Nat → Int32) (Linker_open : Int32) (Linker_openLoops : Int32) (H : Heap) (locs : List Loc) (ls : Array Slot), fnX2_link_15 Code_ops n x2 x3 x4 Code_args Linker_waiting Linker_open Linker_openLoops = some (rr, w_Code_args, w_Linker_waiting, w_Linker_open, w_Linker_openLoops) → va_P (dC, dI) vwCl [(aCode, .inr (0, [.ref aCode_ops, .ref aCode_args])), (aCode_ops, .inl (cI, 200, .inl Code_ops)), (aCode_args, .inl (cI, 200, .inl Code_args)), (aLinker, .inr (2, [.ref aCode, .ref aLinker_waiting, .int Linker_open, .int Linker_openLoops])), (aLinker_waiting, .inl (cI, 8, .inl Linker_waiting))] H → va_D A [(aCode, .inr (0, [.ref aCode_ops, .ref aCode_args])), (aCode_ops, .inl (cI, 200, .inl Code_ops)), (aCode_args, .inl (cI, 200, .inl Code_args)), (aLinker, .inr (2, [.ref aCode, .ref aLinker_waiting, .int Linker_open, .int Linker_openLoops])), (aLinker_waiting, .inl (cI, 8, .inl Linker_waiting))] → va_S A s.heap H locs → lv_has ls 6 [(2, .int x2), (3, .int x3), (4, .int x4), (0, .ref aLinker)] → W p l e rmX2_link s m args below meth c H locs 0 0 Q (F0 m 15 ls []) := by
    intro n
    induction n with
    | zero =>
      intro x2 x3 x4 Code_args Linker_waiting Linker_open Linker_openLoops H locs ls h
      cases h
    | succ n ih =>
      intro x2 x3 x4 Code_args Linker_waiting Linker_open Linker_openLoops H locs ls h hP hD hS hl
      rw [fnX2_link_15] at h
      refine lv_iload hx hb dX2_link_15 (lv_at hl 2 rfl) ?_
      refine lv_iload_n hx hb dX2_link_17 rfl (lv_at hl 0 rfl) ?_
      refine lv_icmp_ge (tgt := 154) hx hb dX2_link_18 (by decide) (fun c_6 => ?_) (fun c_6 => ?_)
      · have h := it_t c_6 h
        exact hj_154 x3 Code_args Linker_waiting Linker_open Linker_openLoops _ _ _ h hP hD hS (lv_sub hl [1, 3] rfl)
      · have h := it_f c_6 h
        refine lv_iload_n hx hb dX2_link_21 rfl (lv_at hl 1 rfl) ?_
        refine lv_if_eq (tgt := 154) hx hb dX2_link_22 (by decide) (fun c_7 => ?_) (fun c_7 => ?_)
        · have h := it_t c_7 h
          exact hj_154 x3 Code_args Linker_waiting Linker_open Linker_openLoops _ _ _ h hP hD hS (lv_sub hl [1, 3] rfl)
        · have h := it_f c_7 h
          refine lv_aload_n hx hb dX2_link_25 rfl (lv_at hl 3 rfl) ?_
          refine va_get (D := (dC, dI)) (ci := 2) (v := .ref aCode) (C := RX2) (T := TX2) (N := 4) hx hb hts (fun w h => List.mem_cons_of_mem _ (inX2 w h)) hown hK hP 3 rfl rfl 0 (by decide) (hts _ (List.mem_cons_of_mem _ mw_24)) (fun _ h9 => h9) rfl dX2_link_26 ?_
          refine lv_iload hx hb dX2_link_29 (lv_at hl 2 rfl) ?_
          obtain ⟨r_8, hc_8, h⟩ := bd1_some h
          have hPc := hP.sub (ws' := [(aCode, .inr (0, [.ref aCode_ops, .ref aCode_args])), (aCode_ops, .inl (cI, 200, .inl Code_ops))]) [0, 1] rfl
          have hDc := hD.sub (ws' := [(aCode, .inr (0, [.ref aCode_ops, .ref aCode_args])), (aCode_ops, .inl (cI, 200, .inl Code_ops))]) [0, 1] (by decide) rfl
          have hFc := va_free (wc := [(aCode, .inr (0, [.ref aCode_ops, .ref aCode_args])), (aCode_ops, .inl (cI, 200, .inl Code_ops))]) hD hS hA [0, 1] rfl
          refine va_calli (va_runV (As := [.int x4]) (rest := []) ⟨hx, hb, hml, hown, hts⟩ (ctX0_opAt l dC dI cI cC cJ aCode aCode_ops aCode_args _ Code_ops x4 r_8 hc_8) (cwV 1 hts (gV_ hc_ mw_29 mw_30 mw_31 mw_19 mw_32) rfl rfl rfl (by decide +kernel) ⟨Nat.le_of_ble_eq_true rfl, Nat.le_of_ble_eq_true rfl⟩) ⟨fun a U g mk q => by obtain ⟨q0, q1, qP, qK, qD⟩ := q; exact ⟨q0, q1, qP, va_K.moved (u := U) (U := U.calling g mk a) (Vm.Alike.refl U.vm) qK, qD⟩, va_recv hK hPc (ci := 0) (q0 := 0) rfl rfl, fun U hU hW => ⟨rfl, by rw [hU], by rw [hU]; exact hPc, va_K.moved hW.alike hK, hDc.weaken (fun _ _ _ _ => trivial)⟩⟩ rfl rfl hl.1 rfl (lv_room (Nat.le_of_ble_eq_true rfl)) dX2_link_31 ⟨Nat.zero_le _, Nat.zero_le _⟩) hS (fun q _ h => hFc q h) hFc (fun r_8 u t H1 locs ht hvm hw hB hz1 hk1 hS => ?_)
          obtain ⟨hP1, hK1, hD1⟩ := hB
          rw [ht] at hP1
          subst hw
          obtain ⟨hP, hD⟩ := va_join (wr := [(aCode_args, .inl (cI, 200, .inl Code_args)), (aLinker, .inr (2, [.ref aCode, .ref aLinker_waiting, .int Linker_open, .int Linker_openLoops])), (aLinker_waiting, .inl (cI, 8, .inl Linker_waiting))]) (w1 := [(aCode, .inr (0, [.ref aCode_ops, .ref aCode_args])), (aCode_ops, .inl (cI, 200, .inl Code_ops))]) hP hD [0, 1] [2, 3, 4] rfl rfl (by decide) (by decide) hk1 hFc hP1 hD1
          generalize H1 = H at hP hS ⊢
          have hP : va_P (dC, dI) vwCl [(aCode_args, .inl (cI, 200, .inl Code_args)), (aLinker, .inr (2, [.ref aCode, .ref aLinker_waiting, .int Linker_open, .int Linker_openLoops])), (aLinker_waiting, .inl (cI, 8, .inl Linker_waiting)), (aCode, .inr (0, [.ref aCode_ops, .ref aCode_args])), (aCode_ops, .inl (cI, 200, .inl Code_ops))] H := hP
          have hD : va_D A [(aCode_args, .inl (cI, 200, .inl Code_args)), (aLinker, .inr (2, [.ref aCode, .ref aLinker_waiting, .int Linker_open, .int Linker_openLoops])), (aLinker_waiting, .inl (cI, 8, .inl Linker_waiting)), (aCode, .inr (0, [.ref aCode_ops, .ref aCode_args])), (aCode_ops, .inl (cI, 200, .inl Code_ops))] := hD
          refine lv_istore (lv' := [(5, .int r_8), (2, .int x2), (3, .int x3), (4, .int x4), (0, .ref aLinker)]) hx hb dX2_link_34 hl (by decide) rfl (fun ls hl => ?_)
          refine lv_iload hx hb dX2_link_36 (lv_at hl 0 rfl) ?_
          by_cases c_9 : r_8 = (33 : Int32)
          · have h := it_t c_9 h
            refine lv_tableIn (tgt := 96) (off := 58) hx hb dX2_link_38 (by rw [c_9]; decide) (by rw [c_9]; decide) (by rw [c_9]; first | decide | rfl) (by decide) ?_
            exact hj_96 ((fnX2_link_15 Code_ops n)) ih x2 x4 r_8 Code_args Linker_waiting Linker_open Linker_openLoops _ _ _ h (hP.sub [3, 4, 0, 1, 2] rfl) (hD.sub [3, 4, 0, 1, 2] (by decide) rfl) hS (lv_sub hl [1, 3, 0, 4] rfl)
          have h := it_f c_9 h
          by_cases c_10 : r_8 = (34 : Int32)
          · have h := it_t c_10 h
            refine lv_tableIn (tgt := 108) (off := 70) hx hb dX2_link_38 (by rw [c_10]; decide) (by rw [c_10]; decide) (by rw [c_10]; first | decide | rfl) (by decide) ?_
            exact hj_108 ((fnX2_link_15 Code_ops n)) ih x2 x4 r_8 Code_args Linker_waiting Linker_open Linker_openLoops _ _ _ h (hP.sub [3, 4, 0, 1, 2] rfl) (hD.sub [3, 4, 0, 1, 2] (by decide) rfl) hS (lv_sub hl [1, 3, 0, 4] rfl)
          have h := it_f c_10 h
          by_cases c_11 : r_8 = (35 : Int32)
          · have h := it_t c_11 h
            refine lv_tableIn (tgt := 120) (off := 82) hx hb dX2_link_38 (by rw [c_11]; decide) (by rw [c_11]; decide) (by rw [c_11]; first | decide | rfl) (by decide) ?_
            exact hj_120 ((fnX2_link_15 Code_ops n)) ih x2 x4 r_8 Code_args Linker_waiting Linker_open Linker_openLoops _ _ _ h (hP.sub [3, 4, 0, 1, 2] rfl) (hD.sub [3, 4, 0, 1, 2] (by decide) rfl) hS (lv_sub hl [1, 3, 0, 4] rfl)
          have h := it_f c_11 h
          by_cases c_12 : r_8 = (36 : Int32)
          · have h := it_t c_12 h
            refine lv_tableIn (tgt := 96) (off := 58) hx hb dX2_link_38 (by rw [c_12]; decide) (by rw [c_12]; decide) (by rw [c_12]; first | decide | rfl) (by decide) ?_
            exact hj_96 ((fnX2_link_15 Code_ops n)) ih x2 x4 r_8 Code_args Linker_waiting Linker_open Linker_openLoops _ _ _ h (hP.sub [3, 4, 0, 1, 2] rfl) (hD.sub [3, 4, 0, 1, 2] (by decide) rfl) hS (lv_sub hl [1, 3, 0, 4] rfl)
          have h := it_f c_12 h
          by_cases c_13 : r_8 = (37 : Int32)
          · have h := it_t c_13 h
            refine lv_tableIn (tgt := 120) (off := 82) hx hb dX2_link_38 (by rw [c_13]; decide) (by rw [c_13]; decide) (by rw [c_13]; first | decide | rfl) (by decide) ?_
            exact hj_120 ((fnX2_link_15 Code_ops n)) ih x2 x4 r_8 Code_args Linker_waiting Linker_open Linker_openLoops _ _ _ h (hP.sub [3, 4, 0, 1, 2] rfl) (hD.sub [3, 4, 0, 1, 2] (by decide) rfl) hS (lv_sub hl [1, 3, 0, 4] rfl)
          have h := it_f c_13 h
          by_cases c_14 : r_8 = (38 : Int32)
          · have h := it_t c_14 h
            refine lv_tableIn (tgt := 120) (off := 82) hx hb dX2_link_38 (by rw [c_14]; decide) (by rw [c_14]; decide) (by rw [c_14]; first | decide | rfl) (by decide) ?_
            exact hj_120 ((fnX2_link_15 Code_ops n)) ih x2 x4 r_8 Code_args Linker_waiting Linker_open Linker_openLoops _ _ _ h (hP.sub [3, 4, 0, 1, 2] rfl) (hD.sub [3, 4, 0, 1, 2] (by decide) rfl) hS (lv_sub hl [1, 3, 0, 4] rfl)
          have h := it_f c_14 h
          by_cases c_15 : r_8 = (39 : Int32)
          · have h := it_t c_15 h
            refine lv_tableIn (tgt := 108) (off := 70) hx hb dX2_link_38 (by rw [c_15]; decide) (by rw [c_15]; decide) (by rw [c_15]; first | decide | rfl) (by decide) ?_
            exact hj_108 ((fnX2_link_15 Code_ops n)) ih x2 x4 r_8 Code_args Linker_waiting Linker_open Linker_openLoops _ _ _ h (hP.sub [3, 4, 0, 1, 2] rfl) (hD.sub [3, 4, 0, 1, 2] (by decide) rfl) hS (lv_sub hl [1, 3, 0, 4] rfl)
          have h := it_f c_15 h
          by_cases c_16 : r_8 = (40 : Int32)
          · have h := it_t c_16 h
            refine lv_tableIn (tgt := 120) (off := 82) hx hb dX2_link_38 (by rw [c_16]; decide) (by rw [c_16]; decide) (by rw [c_16]; first | decide | rfl) (by decide) ?_
            exact hj_120 ((fnX2_link_15 Code_ops n)) ih x2 x4 r_8 Code_args Linker_waiting Linker_open Linker_openLoops _ _ _ h (hP.sub [3, 4, 0, 1, 2] rfl) (hD.sub [3, 4, 0, 1, 2] (by decide) rfl) hS (lv_sub hl [1, 3, 0, 4] rfl)
          have h := it_f c_16 h
          by_cases c_17 : r_8 = (41 : Int32)
          · have h := it_t c_17 h
            refine lv_tableIn (tgt := 96) (off := 58) hx hb dX2_link_38 (by rw [c_17]; decide) (by rw [c_17]; decide) (by rw [c_17]; first | decide | rfl) (by decide) ?_
            exact hj_96 ((fnX2_link_15 Code_ops n)) ih x2 x4 r_8 Code_args Linker_waiting Linker_open Linker_openLoops _ _ _ h (hP.sub [3, 4, 0, 1, 2] rfl) (hD.sub [3, 4, 0, 1, 2] (by decide) rfl) hS (lv_sub hl [1, 3, 0, 4] rfl)
          have h := it_f c_17 h
          by_cases c_18 : r_8 = (42 : Int32)
          · have h := it_t c_18 h
            refine lv_tableIn (tgt := 120) (off := 82) hx hb dX2_link_38 (by rw [c_18]; decide) (by rw [c_18]; decide) (by rw [c_18]; first | decide | rfl) (by decide) ?_
            exact hj_120 ((fnX2_link_15 Code_ops n)) ih x2 x4 r_8 Code_args Linker_waiting Linker_open Linker_openLoops _ _ _ h (hP.sub [3, 4, 0, 1, 2] rfl) (hD.sub [3, 4, 0, 1, 2] (by decide) rfl) hS (lv_sub hl [1, 3, 0, 4] rfl)
          have h := it_f c_18 h
          by_cases c_19 : r_8 = (43 : Int32)
          · have h := it_t c_19 h
            refine lv_tableIn (tgt := 132) (off := 94) hx hb dX2_link_38 (by rw [c_19]; decide) (by rw [c_19]; decide) (by rw [c_19]; first | decide | rfl) (by decide) ?_
            refine lv_aload_n hx hb dX2_link_132 rfl (lv_at hl 4 rfl) ?_
            refine va_get (D := (dC, dI)) (ci := 2) (v := .int Linker_openLoops) (C := RX2) (T := TX2) (N := 4) hx hb hts (fun w h => List.mem_cons_of_mem _ (inX2 w h)) hown hK hP 1 rfl rfl 3 (by decide) (hts _ (List.mem_cons_of_mem _ mw_23)) (fun _ h9 => h9) rfl dX2_link_133 ?_
            refine lv_if_le (tgt := 143) hx hb dX2_link_136 (by decide) (fun c_20 => ?_) (fun c_20 => ?_)
            · have h := it_t c_20 h
              refine lv_iconst (v := (0 : Int32)) hx hb dX2_link_143 (by decide) ?_
              exact hj_144 ((fnX2_link_15 Code_ops n)) ih x2 x4 (0 : Int32) Code_args Linker_waiting Linker_open Linker_openLoops _ _ _ h (hP.sub [3, 4, 0, 1, 2] rfl) (hD.sub [3, 4, 0, 1, 2] (by decide) rfl) hS (lv_sub hl [1, 3, 4] rfl)
            · have h := it_f c_20 h
              refine lv_iconst (v := (1 : Int32)) hx hb dX2_link_139 (by decide) ?_
              refine lv_goto (tgt := 144) hx hb dX2_link_140 (by decide) ?_
              exact hj_144 ((fnX2_link_15 Code_ops n)) ih x2 x4 (1 : Int32) Code_args Linker_waiting Linker_open Linker_openLoops _ _ _ h (hP.sub [3, 4, 0, 1, 2] rfl) (hD.sub [3, 4, 0, 1, 2] (by decide) rfl) hS (lv_sub hl [1, 3, 4] rfl)
          have h := it_f c_19 h
          have c_9 := lv_neT (a := 33) c_9 (by decide)
          have c_10 := lv_neT (a := 34) c_10 (by decide)
          have c_11 := lv_neT (a := 35) c_11 (by decide)
          have c_12 := lv_neT (a := 36) c_12 (by decide)
          have c_13 := lv_neT (a := 37) c_13 (by decide)
          have c_14 := lv_neT (a := 38) c_14 (by decide)
          have c_15 := lv_neT (a := 39) c_15 (by decide)
          have c_16 := lv_neT (a := 40) c_16 (by decide)
          have c_17 := lv_neT (a := 41) c_17 (by decide)
          have c_18 := lv_neT (a := 42) c_18 (by decide)
          have c_19 := lv_neT (a := 43) c_19 (by decide)
          refine lv_tableOut (tgt := 148) hx hb dX2_link_38 (by omega) (by decide) ?_
          exact hj_148 ((fnX2_link_15 Code_ops n)) ih x2 x3 x4 Code_args Linker_waiting Linker_open Linker_openLoops _ _ _ h (hP.sub [3, 4, 0, 1, 2] rfl) (hD.sub [3, 4, 0, 1, 2] (by decide) rfl) hS (lv_sub hl [1, 2, 3, 4] rfl)
  unfold fnX2_link at h
  refine lv_aload_n hx hb dX2_link_0 rfl (lv_at hl 0 rfl) ?_
  refine lv_iconst (v := (0 : Int32)) hx hb dX2_link_1 (by decide) ?_
  refine va_put (D := (dC, dI)) (ci := 2) (v := .int (0 : Int32)) (ty := .int) (C := RX2) (T := TX2) (N := 4) hx hb hts (fun w h => List.mem_cons_of_mem _ (inX2 w h)) tyX2 tyX2_ok nmX2 hown hK hP hD hS 3 rfl rfl 2 (by decide) (hts _ (List.mem_cons_of_mem _ mw_21)) (fun _ h9 => h9) rfl (by decide +kernel) rfl rfl (Nat.le_of_ble_eq_true rfl) dX2_link_2 (fun H locs hP hD hS => ?_)
  have hP : va_P (dC, dI) vwCl [(aCode, .inr (0, [.ref aCode_ops, .ref aCode_args])), (aCode_ops, .inl (cI, 200, .inl Code_ops)), (aCode_args, .inl (cI, 200, .inl Code_args)), (aLinker, .inr (2, [.ref aCode, .ref aLinker_waiting, .int (0 : Int32), .int Linker_openLoops])), (aLinker_waiting, .inl (cI, 8, .inl Linker_waiting))] H := hP
  have hD : va_D A [(aCode, .inr (0, [.ref aCode_ops, .ref aCode_args])), (aCode_ops, .inl (cI, 200, .inl Code_ops)), (aCode_args, .inl (cI, 200, .inl Code_args)), (aLinker, .inr (2, [.ref aCode, .ref aLinker_waiting, .int (0 : Int32), .int Linker_openLoops])), (aLinker_waiting, .inl (cI, 8, .inl Linker_waiting))] := hD
  refine lv_aload_n hx hb dX2_link_5 rfl (lv_at hl 0 rfl) ?_
  refine lv_iconst (v := (0 : Int32)) hx hb dX2_link_6 (by decide) ?_
  refine va_put (D := (dC, dI)) (ci := 2) (v := .int (0 : Int32)) (ty := .int) (C := RX2) (T := TX2) (N := 4) hx hb hts (fun w h => List.mem_cons_of_mem _ (inX2 w h)) tyX2 tyX2_ok nmX2 hown hK hP hD hS 3 rfl rfl 3 (by decide) (hts _ (List.mem_cons_of_mem _ mw_23)) (fun _ h9 => h9) rfl (by decide +kernel) rfl rfl (Nat.le_of_ble_eq_true rfl) dX2_link_7 (fun H locs hP hD hS => ?_)
  have hP : va_P (dC, dI) vwCl [(aCode, .inr (0, [.ref aCode_ops, .ref aCode_args])), (aCode_ops, .inl (cI, 200, .inl Code_ops)), (aCode_args, .inl (cI, 200, .inl Code_args)), (aLinker, .inr (2, [.ref aCode, .ref aLinker_waiting, .int (0 : Int32), .int (0 : Int32)])), (aLinker_waiting, .inl (cI, 8, .inl Linker_waiting))] H := hP
  have hD : va_D A [(aCode, .inr (0, [.ref aCode_ops, .ref aCode_args])), (aCode_ops, .inl (cI, 200, .inl Code_ops)), (aCode_args, .inl (cI, 200, .inl Code_args)), (aLinker, .inr (2, [.ref aCode, .ref aLinker_waiting, .int (0 : Int32), .int (0 : Int32)])), (aLinker_waiting, .inl (cI, 8, .inl Linker_waiting))] := hD
  refine lv_iconst (v := (1 : Int32)) hx hb dX2_link_10 (by decide) ?_
  refine lv_istore_n (lv' := [(3, .int (1 : Int32)), (0, .ref aLinker), (1, .int p0), (2, .int p1)]) hx hb dX2_link_11 rfl hl (by decide) rfl (fun ls hl => ?_)
  refine lv_iload_n hx hb dX2_link_12 rfl (lv_at hl 2 rfl) ?_
  refine lv_istore (lv' := [(4, .int p0), (3, .int (1 : Int32)), (0, .ref aLinker), (1, .int p0), (2, .int p1)]) hx hb dX2_link_13 hl (by decide) rfl (fun ls hl => ?_)
  exact hj_15 fuel_ p1 (1 : Int32) p0 Code_args Linker_waiting (0 : Int32) (0 : Int32) _ _ _ h hP hD hS (lv_sub hl [4, 1, 0, 2] rfl)
abbrev rmX1_closeBody : Room := { frames := 3, cells := 0, slots := 0, locals := 71 }
set_option maxHeartbeats 4000000 in
set_option maxRecDepth 100000 in
theorem ctX1_closeBody (l : Launch) (dC : Nat → ClassId) (dI : Nat → Nat → Nat) (cI cC cJ : ClassId) (aCode aCode_ops aCode_args aDictionary aDictionary_keys aDictionary_starts aLinker aLinker_waiting : Nat) (sz : Nat) (Code_ops : Nat → Int32) (Code_args : Nat → Int32) (Dictionary_keys : Nat → Int64) (Dictionary_starts : Nat → Int32) (Dictionary_size : Int32) (Dictionary_openLength : Int32) (Linker_waiting : Nat → Int32) (Linker_open : Int32) (Linker_openLoops : Int32) (p0 : Int64) (rr : Int32) (w_Code_args : Nat → Int32) (w_Dictionary_keys : Nat → Int64) (w_Dictionary_starts : Nat → Int32) (w_Dictionary_size : Int32) (w_Linker_waiting : Nat → Int32) (w_Linker_open : Int32) (w_Linker_openLoops : Int32) (h : fnX1_closeBody Code_ops Code_args Dictionary_keys Dictionary_starts Dictionary_size Dictionary_openLength Linker_waiting Linker_open Linker_openLoops p0 = some (rr, w_Code_args, w_Dictionary_keys, w_Dictionary_starts, w_Dictionary_size, w_Linker_waiting, w_Linker_open, w_Linker_openLoops)) : Met l yX1_closeBody wsX1_closeBody rmX1_closeBody (va_Pc [.ref aDictionary, .long p0] (fun U => U.heap.size = sz ∧ va_P (dC, dI) vwCl [(aCode, .inr (0, [.ref aCode_ops, .ref aCode_args])), (aCode_ops, .inl (cI, 200, .inl Code_ops)), (aCode_args, .inl (cI, 200, .inl Code_args)), (aDictionary, .inr (1, [.ref aDictionary_keys, .ref aDictionary_starts, .ref aCode, .ref aLinker, .int Dictionary_size, .int Dictionary_openLength])), (aDictionary_keys, .inl (cJ, 20, .inr (.inl Dictionary_keys))), (aDictionary_starts, .inl (cI, 21, .inl Dictionary_starts)), (aLinker, .inr (2, [.ref aCode, .ref aLinker_waiting, .int Linker_open, .int Linker_openLoops])), (aLinker_waiting, .inl (cI, 8, .inl Linker_waiting))] U.heap ∧ va_K (dC, dI) vwCl [(cI, .int), (cC, .char), (cJ, .long)] U ∧ va_D (fun _ => True) [(aCode, .inr (0, [.ref aCode_ops, .ref aCode_args])), (aCode_ops, .inl (cI, 200, .inl Code_ops)), (aCode_args, .inl (cI, 200, .inl Code_args)), (aDictionary, .inr (1, [.ref aDictionary_keys, .ref aDictionary_starts, .ref aCode, .ref aLinker, .int Dictionary_size, .int Dictionary_openLength])), (aDictionary_keys, .inl (cJ, 20, .inr (.inl Dictionary_keys))), (aDictionary_starts, .inl (cI, 21, .inl Dictionary_starts)), (aLinker, .inr (2, [.ref aCode, .ref aLinker_waiting, .int Linker_open, .int Linker_openLoops])), (aLinker_waiting, .inl (cI, 8, .inl Linker_waiting))])) (va_Qi (fun r (_ : Unit) => r = rr) (fun _ t => va_P (dC, dI) vwCl [(aCode, .inr (0, [.ref aCode_ops, .ref aCode_args])), (aCode_ops, .inl (cI, 200, .inl Code_ops)), (aCode_args, .inl (cI, 200, .inl w_Code_args)), (aDictionary, .inr (1, [.ref aDictionary_keys, .ref aDictionary_starts, .ref aCode, .ref aLinker, .int w_Dictionary_size, .int Dictionary_openLength])), (aDictionary_keys, .inl (cJ, 20, .inr (.inl w_Dictionary_keys))), (aDictionary_starts, .inl (cI, 21, .inl w_Dictionary_starts)), (aLinker, .inr (2, [.ref aCode, .ref aLinker_waiting, .int w_Linker_open, .int w_Linker_openLoops])), (aLinker_waiting, .inl (cI, 8, .inl w_Linker_waiting))] t.heap ∧ va_K (dC, dI) vwCl [(cI, .int), (cC, .char), (cJ, .long)] t ∧ va_D (va_A [(aCode, .inr (0, [.ref aCode_ops, .ref aCode_args])), (aCode_ops, .inl (cI, 200, .inl Code_ops)), (aCode_args, .inl (cI, 200, .inl Code_args)), (aDictionary, .inr (1, [.ref aDictionary_keys, .ref aDictionary_starts, .ref aCode, .ref aLinker, .int Dictionary_size, .int Dictionary_openLength])), (aDictionary_keys, .inl (cJ, 20, .inr (.inl Dictionary_keys))), (aDictionary_starts, .inl (cI, 21, .inl Dictionary_starts)), (aLinker, .inr (2, [.ref aCode, .ref aLinker_waiting, .int Linker_open, .int Linker_openLoops])), (aLinker_waiting, .inl (cI, 8, .inl Linker_waiting))] sz) [(aCode, .inr (0, [.ref aCode_ops, .ref aCode_args])), (aCode_ops, .inl (cI, 200, .inl Code_ops)), (aCode_args, .inl (cI, 200, .inl w_Code_args)), (aDictionary, .inr (1, [.ref aDictionary_keys, .ref aDictionary_starts, .ref aCode, .ref aLinker, .int w_Dictionary_size, .int Dictionary_openLength])), (aDictionary_keys, .inl (cJ, 20, .inr (.inl w_Dictionary_keys))), (aDictionary_starts, .inl (cI, 21, .inl w_Dictionary_starts)), (aLinker, .inr (2, [.ref aCode, .ref aLinker_waiting, .int w_Linker_open, .int w_Linker_openLoops])), (aLinker_waiting, .inl (cI, 8, .inl w_Linker_waiting))]) (va_A [(aCode, .inr (0, [.ref aCode_ops, .ref aCode_args])), (aCode_ops, .inl (cI, 200, .inl Code_ops)), (aCode_args, .inl (cI, 200, .inl Code_args)), (aDictionary, .inr (1, [.ref aDictionary_keys, .ref aDictionary_starts, .ref aCode, .ref aLinker, .int Dictionary_size, .int Dictionary_openLength])), (aDictionary_keys, .inl (cJ, 20, .inr (.inl Dictionary_keys))), (aDictionary_starts, .inl (cI, 21, .inl Dictionary_starts)), (aLinker, .inr (2, [.ref aCode, .ref aLinker_waiting, .int Linker_open, .int Linker_openLoops])), (aLinker_waiting, .inl (cI, 8, .inl Linker_waiting))] sz)) 0 0 (va_A [(aCode, .inr (0, [.ref aCode_ops, .ref aCode_args])), (aCode_ops, .inl (cI, 200, .inl Code_ops)), (aCode_args, .inl (cI, 200, .inl Code_args)), (aDictionary, .inr (1, [.ref aDictionary_keys, .ref aDictionary_starts, .ref aCode, .ref aLinker, .int Dictionary_size, .int Dictionary_openLength])), (aDictionary_keys, .inl (cJ, 20, .inr (.inl Dictionary_keys))), (aDictionary_starts, .inl (cI, 21, .inl Dictionary_starts)), (aLinker, .inr (2, [.ref aCode, .ref aLinker_waiting, .int Linker_open, .int Linker_openLoops])), (aLinker_waiting, .inl (cI, 8, .inl Linker_waiting))] sz) := by
  refine Met.ofW (cc := cX1_closeBody) (maxL := 5) (ret := (some .int)) (by decide) rfl ?_
  intro p e s m args below meth c s₁ B hml hv
  obtain ⟨hargs, hsz, hP, hK, hD0⟩ := hv
  have hx := B.exec
  have hb := B.bytes
  have hr := B.returns
  have hts := atoms_spec (ws := wsX1_closeBody) B.pre
  have hown : s.vm.findClass RX1 = some m.cls := findClass_of_methodNamed B.named
  have hlocks := B.notSynchronized
  subst hsz
  have hD := hD0.self (sz := s.heap.size)
  generalize hAe : va_A [(aCode, .inr (0, [.ref aCode_ops, .ref aCode_args])), (aCode_ops, .inl (cI, 200, .inl Code_ops)), (aCode_args, .inl (cI, 200, .inl Code_args)), (aDictionary, .inr (1, [.ref aDictionary_keys, .ref aDictionary_starts, .ref aCode, .ref aLinker, .int Dictionary_size, .int Dictionary_openLength])), (aDictionary_keys, .inl (cJ, 20, .inr (.inl Dictionary_keys))), (aDictionary_starts, .inl (cI, 21, .inl Dictionary_starts)), (aLinker, .inr (2, [.ref aCode, .ref aLinker_waiting, .int Linker_open, .int Linker_openLoops])), (aLinker_waiting, .inl (cI, 8, .inl Linker_waiting))] s.heap.size = A at hD ⊢
  have hA : ∀ q : Nat, s.heap.size ≤ q → A q := fun q h => by rw [← hAe]; exact Or.inr h
  have hS : va_S A s.heap s.heap [] := va_S.rf
  have hl := lv_entry ([.ref aDictionary, .long p0]) (n := 5) (Nat.le_of_ble_eq_true rfl)
  have hfr : entryFrame m args 5 = entryFrame m ([.ref aDictionary, .long p0] : List Value).toArray 5 := by rw [hargs]
  rw [hfr, lg_entry_eq]
  generalize (lg_sl ([.ref aDictionary, .long p0]) ++ List.replicate (5 - (lg_sl ([.ref aDictionary, .long p0])).length) Slot.unset).toArray = ls at hl ⊢
  have hl : lv_has ls 5 [(0, .ref aDictionary), (1, .long p0)] := hl
  refine nameQ_ (fun Q hQ => ?_)
  unfold fnX1_closeBody at h
  refine lv_aload_n hx hb dX1_closeBody_0 rfl (lv_at hl 0 rfl) ?_
  refine lv_aload_n hx hb dX1_closeBody_1 rfl (lv_at hl 0 rfl) ?_
  refine va_get (D := (dC, dI)) (ci := 1) (v := .int Dictionary_size) (C := RX1) (T := TX1) (N := 6) hx hb hts (fun w h => List.mem_cons_of_mem _ (inX1 w h)) hown hK hP 3 rfl rfl 4 (by decide) (hts _ (List.mem_cons_of_mem _ mw_2)) (fun _ h9 => h9) rfl dX1_closeBody_2 ?_
  obtain ⟨r_1, hc_1, h⟩ := bd1_some h
  have hPc := hP.sub (ws' := [(aDictionary, .inr (1, [.ref aDictionary_keys, .ref aDictionary_starts, .ref aCode, .ref aLinker, .int Dictionary_size, .int Dictionary_openLength])), (aDictionary_starts, .inl (cI, 21, .inl Dictionary_starts))]) [3, 5] rfl
  have hDc := hD.sub (ws' := [(aDictionary, .inr (1, [.ref aDictionary_keys, .ref aDictionary_starts, .ref aCode, .ref aLinker, .int Dictionary_size, .int Dictionary_openLength])), (aDictionary_starts, .inl (cI, 21, .inl Dictionary_starts))]) [3, 5] (by decide) rfl
  have hFc := va_free (wc := [(aDictionary, .inr (1, [.ref aDictionary_keys, .ref aDictionary_starts, .ref aCode, .ref aLinker, .int Dictionary_size, .int Dictionary_openLength])), (aDictionary_starts, .inl (cI, 21, .inl Dictionary_starts))]) hD hS hA [3, 5] rfl
  refine va_calli (va_runV (As := [.int Dictionary_size]) (rest := []) ⟨hx, hb, hml, hown, hts⟩ (ctX1_startOf l dC dI cI cC cJ aDictionary aDictionary_keys aDictionary_starts aCode aLinker _ Dictionary_starts Dictionary_size Dictionary_openLength Dictionary_size r_1 hc_1) (cwV 1 hts (gV_ hc_ mw_12 mw_13 mw_14 mw_8 mw_15) rfl rfl rfl (by decide +kernel) ⟨Nat.le_of_ble_eq_true rfl, Nat.le_of_ble_eq_true rfl⟩) ⟨fun a U g mk q => by obtain ⟨q0, q1, qP, qK, qD⟩ := q; exact ⟨q0, q1, qP, va_K.moved (u := U) (U := U.calling g mk a) (Vm.Alike.refl U.vm) qK, qD⟩, va_recv hK hPc (ci := 1) (q0 := 0) rfl rfl, fun U hU hW => ⟨rfl, by rw [hU], by rw [hU]; exact hPc, va_K.moved hW.alike hK, hDc.weaken (fun _ _ _ _ => trivial)⟩⟩ rfl rfl hl.1 rfl (lv_room (Nat.le_of_ble_eq_true rfl)) dX1_closeBody_5 ⟨Nat.zero_le _, Nat.zero_le _⟩) hS (fun q _ h => hFc q h) hFc (fun r_1 u t H1 locs ht hvm hw hB hz1 hk1 hS => ?_)
  obtain ⟨hP1, hK1, hD1⟩ := hB
  rw [ht] at hP1
  subst hw
  obtain ⟨hP, hD⟩ := va_join (wr := [(aCode, .inr (0, [.ref aCode_ops, .ref aCode_args])), (aCode_ops, .inl (cI, 200, .inl Code_ops)), (aCode_args, .inl (cI, 200, .inl Code_args)), (aDictionary_keys, .inl (cJ, 20, .inr (.inl Dictionary_keys))), (aLinker, .inr (2, [.ref aCode, .ref aLinker_waiting, .int Linker_open, .int Linker_openLoops])), (aLinker_waiting, .inl (cI, 8, .inl Linker_waiting))]) (w1 := [(aDictionary, .inr (1, [.ref aDictionary_keys, .ref aDictionary_starts, .ref aCode, .ref aLinker, .int Dictionary_size, .int Dictionary_openLength])), (aDictionary_starts, .inl (cI, 21, .inl Dictionary_starts))]) hP hD [3, 5] [0, 1, 2, 4, 6, 7] rfl rfl (by decide) (by decide) hk1 hFc hP1 hD1
  generalize H1 = H at hP hS ⊢
  have hP : va_P (dC, dI) vwCl [(aCode, .inr (0, [.ref aCode_ops, .ref aCode_args])), (aCode_ops, .inl (cI, 200, .inl Code_ops)), (aCode_args, .inl (cI, 200, .inl Code_args)), (aDictionary_keys, .inl (cJ, 20, .inr (.inl Dictionary_keys))), (aLinker, .inr (2, [.ref aCode, .ref aLinker_waiting, .int Linker_open, .int Linker_openLoops])), (aLinker_waiting, .inl (cI, 8, .inl Linker_waiting)), (aDictionary, .inr (1, [.ref aDictionary_keys, .ref aDictionary_starts, .ref aCode, .ref aLinker, .int Dictionary_size, .int Dictionary_openLength])), (aDictionary_starts, .inl (cI, 21, .inl Dictionary_starts))] H := hP
  have hD : va_D A [(aCode, .inr (0, [.ref aCode_ops, .ref aCode_args])), (aCode_ops, .inl (cI, 200, .inl Code_ops)), (aCode_args, .inl (cI, 200, .inl Code_args)), (aDictionary_keys, .inl (cJ, 20, .inr (.inl Dictionary_keys))), (aLinker, .inr (2, [.ref aCode, .ref aLinker_waiting, .int Linker_open, .int Linker_openLoops])), (aLinker_waiting, .inl (cI, 8, .inl Linker_waiting)), (aDictionary, .inr (1, [.ref aDictionary_keys, .ref aDictionary_starts, .ref aCode, .ref aLinker, .int Dictionary_size, .int Dictionary_openLength])), (aDictionary_starts, .inl (cI, 21, .inl Dictionary_starts))] := hD
  refine lv_istore_n (lv' := [(3, .int r_1), (0, .ref aDictionary), (1, .long p0)]) hx hb dX1_closeBody_8 rfl hl (by decide) rfl (fun ls hl => ?_)
  refine lv_iload_n hx hb dX1_closeBody_9 rfl (lv_at hl 0 rfl) ?_
  refine lv_aload_n hx hb dX1_closeBody_10 rfl (lv_at hl 1 rfl) ?_
  refine va_get (D := (dC, dI)) (ci := 1) (v := .int Dictionary_openLength) (C := RX1) (T := TX1) (N := 6) hx hb hts (fun w h => List.mem_cons_of_mem _ (inX1 w h)) hown hK hP 6 rfl rfl 5 (by decide) (hts _ (List.mem_cons_of_mem _ mw_10)) (fun _ h9 => h9) rfl dX1_closeBody_11 ?_
  refine lv_iadd hx hb dX1_closeBody_14 ?_
  refine lv_istore (lv' := [(4, .int (r_1 + Dictionary_openLength)), (3, .int r_1), (0, .ref aDictionary), (1, .long p0)]) hx hb dX1_closeBody_15 hl (by decide) rfl (fun ls hl => ?_)
  refine lv_aload_n hx hb dX1_closeBody_17 rfl (lv_at hl 2 rfl) ?_
  refine va_get (D := (dC, dI)) (ci := 1) (v := .int Dictionary_size) (C := RX1) (T := TX1) (N := 6) hx hb hts (fun w h => List.mem_cons_of_mem _ (inX1 w h)) hown hK hP 6 rfl rfl 4 (by decide) (hts _ (List.mem_cons_of_mem _ mw_2)) (fun _ h9 => h9) rfl dX1_closeBody_18 ?_
  refine lv_if_lt (tgt := 41) hx hb dX1_closeBody_21 (by decide) (fun c_2 => ?_) (fun c_2 => ?_)
  · have h := it_t c_2 h
    refine lv_bipush (v := (9 : Int32)) hx hb dX1_closeBody_41 (by decide) ?_
    have hP := hP.sub (ws' := [(aCode, .inr (0, [.ref aCode_ops, .ref aCode_args])), (aCode_ops, .inl (cI, 200, .inl Code_ops)), (aCode_args, .inl (cI, 200, .inl Code_args)), (aDictionary, .inr (1, [.ref aDictionary_keys, .ref aDictionary_starts, .ref aCode, .ref aLinker, .int Dictionary_size, .int Dictionary_openLength])), (aDictionary_keys, .inl (cJ, 20, .inr (.inl Dictionary_keys))), (aDictionary_starts, .inl (cI, 21, .inl Dictionary_starts)), (aLinker, .inr (2, [.ref aCode, .ref aLinker_waiting, .int Linker_open, .int Linker_openLoops])), (aLinker_waiting, .inl (cI, 8, .inl Linker_waiting))]) [0, 1, 2, 6, 3, 7, 4, 5] rfl
    have hD := hD.sub (ws' := [(aCode, .inr (0, [.ref aCode_ops, .ref aCode_args])), (aCode_ops, .inl (cI, 200, .inl Code_ops)), (aCode_args, .inl (cI, 200, .inl Code_args)), (aDictionary, .inr (1, [.ref aDictionary_keys, .ref aDictionary_starts, .ref aCode, .ref aLinker, .int Dictionary_size, .int Dictionary_openLength])), (aDictionary_keys, .inl (cJ, 20, .inr (.inl Dictionary_keys))), (aDictionary_starts, .inl (cI, 21, .inl Dictionary_starts)), (aLinker, .inr (2, [.ref aCode, .ref aLinker_waiting, .int Linker_open, .int Linker_openLoops])), (aLinker_waiting, .inl (cI, 8, .inl Linker_waiting))]) [0, 1, 2, 6, 3, 7, 4, 5] (by decide) rfl
    cases h
    rw [hQ]
    exact W.iret hx hb hr (fun t ht hW => ⟨⟨_, (), rfl, rfl, by rw [ht]; exact hP, va_K.moved hW.alike hK, hD⟩, hS.F ht⟩) hS.2.2 dX1_closeBody_43
  · have h := it_f c_2 h
    refine lv_aload_n hx hb dX1_closeBody_24 rfl (lv_at hl 2 rfl) ?_
    refine va_get (D := (dC, dI)) (ci := 1) (v := .int Dictionary_size) (C := RX1) (T := TX1) (N := 6) hx hb hts (fun w h => List.mem_cons_of_mem _ (inX1 w h)) hown hK hP 6 rfl rfl 4 (by decide) (hts _ (List.mem_cons_of_mem _ mw_2)) (fun _ h9 => h9) rfl dX1_closeBody_25 ?_
    refine lv_bipush (v := (20 : Int32)) hx hb dX1_closeBody_28 (by decide) ?_
    refine lv_icmp_ge (tgt := 41) hx hb dX1_closeBody_30 (by decide) (fun c_3 => ?_) (fun c_3 => ?_)
    · have h := it_t c_3 h
      refine lv_bipush (v := (9 : Int32)) hx hb dX1_closeBody_41 (by decide) ?_
      have hP := hP.sub (ws' := [(aCode, .inr (0, [.ref aCode_ops, .ref aCode_args])), (aCode_ops, .inl (cI, 200, .inl Code_ops)), (aCode_args, .inl (cI, 200, .inl Code_args)), (aDictionary, .inr (1, [.ref aDictionary_keys, .ref aDictionary_starts, .ref aCode, .ref aLinker, .int Dictionary_size, .int Dictionary_openLength])), (aDictionary_keys, .inl (cJ, 20, .inr (.inl Dictionary_keys))), (aDictionary_starts, .inl (cI, 21, .inl Dictionary_starts)), (aLinker, .inr (2, [.ref aCode, .ref aLinker_waiting, .int Linker_open, .int Linker_openLoops])), (aLinker_waiting, .inl (cI, 8, .inl Linker_waiting))]) [0, 1, 2, 6, 3, 7, 4, 5] rfl
      have hD := hD.sub (ws' := [(aCode, .inr (0, [.ref aCode_ops, .ref aCode_args])), (aCode_ops, .inl (cI, 200, .inl Code_ops)), (aCode_args, .inl (cI, 200, .inl Code_args)), (aDictionary, .inr (1, [.ref aDictionary_keys, .ref aDictionary_starts, .ref aCode, .ref aLinker, .int Dictionary_size, .int Dictionary_openLength])), (aDictionary_keys, .inl (cJ, 20, .inr (.inl Dictionary_keys))), (aDictionary_starts, .inl (cI, 21, .inl Dictionary_starts)), (aLinker, .inr (2, [.ref aCode, .ref aLinker_waiting, .int Linker_open, .int Linker_openLoops])), (aLinker_waiting, .inl (cI, 8, .inl Linker_waiting))]) [0, 1, 2, 6, 3, 7, 4, 5] (by decide) rfl
      cases h
      rw [hQ]
      exact W.iret hx hb hr (fun t ht hW => ⟨⟨_, (), rfl, rfl, by rw [ht]; exact hP, va_K.moved hW.alike hK, hD⟩, hS.F ht⟩) hS.2.2 dX1_closeBody_43
    · have h := it_f c_3 h
      refine lv_iload hx hb dX1_closeBody_33 (lv_at hl 0 rfl) ?_
      refine lv_sipush (v := (200 : Int32)) hx hb dX1_closeBody_35 (by decide) ?_
      refine lv_icmp_le (tgt := 44) hx hb dX1_closeBody_38 (by decide) (fun c_4 => ?_) (fun c_4 => ?_)
      · have h := it_t c_4 h
        refine lv_aload_n hx hb dX1_closeBody_44 rfl (lv_at hl 2 rfl) ?_
        refine va_get (D := (dC, dI)) (ci := 1) (v := .ref aLinker) (C := RX1) (T := TX1) (N := 6) hx hb hts (fun w h => List.mem_cons_of_mem _ (inX1 w h)) hown hK hP 6 rfl rfl 3 (by decide) (hts _ (List.mem_cons_of_mem _ mw_50)) (fun _ h9 => h9) rfl dX1_closeBody_45 ?_
        refine lv_iload_n hx hb dX1_closeBody_48 rfl (lv_at hl 1 rfl) ?_
        refine lv_iload hx hb dX1_closeBody_49 (lv_at hl 0 rfl) ?_
        obtain ⟨r_5, Code_args_5, Linker_waiting_5, Linker_open_5, Linker_openLoops_5, hc_5, h⟩ := bd5_some h
        have hPc := hP.sub (ws' := [(aCode, .inr (0, [.ref aCode_ops, .ref aCode_args])), (aCode_ops, .inl (cI, 200, .inl Code_ops)), (aCode_args, .inl (cI, 200, .inl Code_args)), (aLinker, .inr (2, [.ref aCode, .ref aLinker_waiting, .int Linker_open, .int Linker_openLoops])), (aLinker_waiting, .inl (cI, 8, .inl Linker_waiting))]) [0, 1, 2, 4, 5] rfl
        have hDc := hD.sub (ws' := [(aCode, .inr (0, [.ref aCode_ops, .ref aCode_args])), (aCode_ops, .inl (cI, 200, .inl Code_ops)), (aCode_args, .inl (cI, 200, .inl Code_args)), (aLinker, .inr (2, [.ref aCode, .ref aLinker_waiting, .int Linker_open, .int Linker_openLoops])), (aLinker_waiting, .inl (cI, 8, .inl Linker_waiting))]) [0, 1, 2, 4, 5] (by decide) rfl
        have hFc := va_free (wc := [(aCode, .inr (0, [.ref aCode_ops, .ref aCode_args])), (aCode_ops, .inl (cI, 200, .inl Code_ops)), (aCode_args, .inl (cI, 200, .inl Code_args)), (aLinker, .inr (2, [.ref aCode, .ref aLinker_waiting, .int Linker_open, .int Linker_openLoops])), (aLinker_waiting, .inl (cI, 8, .inl Linker_waiting))]) hD hS hA [0, 1, 2, 4, 5] rfl
        refine va_calli (va_runV (As := [.int r_1, .int (r_1 + Dictionary_openLength)]) (rest := []) ⟨hx, hb, hml, hown, hts⟩ (ctX2_link l dC dI cI cC cJ aCode aCode_ops aCode_args aLinker aLinker_waiting _ Code_ops Code_args Linker_waiting Linker_open Linker_openLoops r_1 (r_1 + Dictionary_openLength) r_5 Code_args_5 Linker_waiting_5 Linker_open_5 Linker_openLoops_5 hc_5) (cwV 2 hts (gV_ hc_ mw_51 mw_52 mw_53 mw_40 mw_54) rfl rfl rfl (by decide +kernel) ⟨Nat.le_of_ble_eq_true rfl, Nat.le_of_ble_eq_true rfl⟩) ⟨fun a U g mk q => by obtain ⟨q0, q1, qP, qK, qD⟩ := q; exact ⟨q0, q1, qP, va_K.moved (u := U) (U := U.calling g mk a) (Vm.Alike.refl U.vm) qK, qD⟩, va_recv hK hPc (ci := 2) (q0 := 3) rfl rfl, fun U hU hW => ⟨rfl, by rw [hU], by rw [hU]; exact hPc, va_K.moved hW.alike hK, hDc.weaken (fun _ _ _ _ => trivial)⟩⟩ rfl rfl hl.1 rfl (lv_room (Nat.le_of_ble_eq_true rfl)) dX1_closeBody_51 ⟨Nat.zero_le _, Nat.zero_le _⟩) hS (fun q _ h => hFc q h) hFc (fun r_5 u t H1 locs ht hvm hw hB hz1 hk1 hS => ?_)
        obtain ⟨hP1, hK1, hD1⟩ := hB
        rw [ht] at hP1
        subst hw
        obtain ⟨hP, hD⟩ := va_join (wr := [(aDictionary_keys, .inl (cJ, 20, .inr (.inl Dictionary_keys))), (aDictionary, .inr (1, [.ref aDictionary_keys, .ref aDictionary_starts, .ref aCode, .ref aLinker, .int Dictionary_size, .int Dictionary_openLength])), (aDictionary_starts, .inl (cI, 21, .inl Dictionary_starts))]) (w1 := [(aCode, .inr (0, [.ref aCode_ops, .ref aCode_args])), (aCode_ops, .inl (cI, 200, .inl Code_ops)), (aCode_args, .inl (cI, 200, .inl Code_args_5)), (aLinker, .inr (2, [.ref aCode, .ref aLinker_waiting, .int Linker_open_5, .int Linker_openLoops_5])), (aLinker_waiting, .inl (cI, 8, .inl Linker_waiting_5))]) hP hD [0, 1, 2, 4, 5] [3, 6, 7] rfl rfl (by decide) (by decide) hk1 hFc hP1 hD1
        generalize H1 = H at hP hS ⊢
        have hP : va_P (dC, dI) vwCl [(aDictionary_keys, .inl (cJ, 20, .inr (.inl Dictionary_keys))), (aDictionary, .inr (1, [.ref aDictionary_keys, .ref aDictionary_starts, .ref aCode, .ref aLinker, .int Dictionary_size, .int Dictionary_openLength])), (aDictionary_starts, .inl (cI, 21, .inl Dictionary_starts)), (aCode, .inr (0, [.ref aCode_ops, .ref aCode_args])), (aCode_ops, .inl (cI, 200, .inl Code_ops)), (aCode_args, .inl (cI, 200, .inl Code_args_5)), (aLinker, .inr (2, [.ref aCode, .ref aLinker_waiting, .int Linker_open_5, .int Linker_openLoops_5])), (aLinker_waiting, .inl (cI, 8, .inl Linker_waiting_5))] H := hP
        have hD : va_D A [(aDictionary_keys, .inl (cJ, 20, .inr (.inl Dictionary_keys))), (aDictionary, .inr (1, [.ref aDictionary_keys, .ref aDictionary_starts, .ref aCode, .ref aLinker, .int Dictionary_size, .int Dictionary_openLength])), (aDictionary_starts, .inl (cI, 21, .inl Dictionary_starts)), (aCode, .inr (0, [.ref aCode_ops, .ref aCode_args])), (aCode_ops, .inl (cI, 200, .inl Code_ops)), (aCode_args, .inl (cI, 200, .inl Code_args_5)), (aLinker, .inr (2, [.ref aCode, .ref aLinker_waiting, .int Linker_open_5, .int Linker_openLoops_5])), (aLinker_waiting, .inl (cI, 8, .inl Linker_waiting_5))] := hD
        refine lv_if_ne (tgt := 59) hx hb dX1_closeBody_54 (by decide) (fun c_6 => ?_) (fun c_6 => ?_)
        · have h := it_f c_6 h
          refine lv_aload_n hx hb dX1_closeBody_59 rfl (lv_at hl 2 rfl) ?_
          refine va_get (D := (dC, dI)) (ci := 1) (v := .ref aDictionary_keys) (C := RX1) (T := TX1) (N := 6) hx hb hts (fun w h => List.mem_cons_of_mem _ (inX1 w h)) hown hK hP 1 rfl rfl 0 (by decide) (hts _ (List.mem_cons_of_mem _ mw_3)) (fun _ h9 => h9) rfl dX1_closeBody_60 ?_
          refine lv_aload_n hx hb dX1_closeBody_63 rfl (lv_at hl 2 rfl) ?_
          refine va_get (D := (dC, dI)) (ci := 1) (v := .int Dictionary_size) (C := RX1) (T := TX1) (N := 6) hx hb hts (fun w h => List.mem_cons_of_mem _ (inX1 w h)) hown hK hP 1 rfl rfl 4 (by decide) (hts _ (List.mem_cons_of_mem _ mw_2)) (fun _ h9 => h9) rfl dX1_closeBody_64 ?_
          refine lv_lload_n hx hb dX1_closeBody_67 rfl (lv_at hl 3 rfl) ?_
          obtain ⟨f_7, hi_8, h⟩ := bd1_some h
          obtain ⟨hi_8, ex_9⟩ := sl_some hi_8
          refine va_last hx hb hK hP hD hS 0 2 rfl rfl hi_8 dX1_closeBody_68 (fun H locs hP hD hS => ?_)
          rw [← ex_9] at hP hD
          have hP : va_P (dC, dI) vwCl [(aDictionary_keys, .inl (cJ, 20, .inr (.inl f_7))), (aDictionary, .inr (1, [.ref aDictionary_keys, .ref aDictionary_starts, .ref aCode, .ref aLinker, .int Dictionary_size, .int Dictionary_openLength])), (aDictionary_starts, .inl (cI, 21, .inl Dictionary_starts)), (aCode, .inr (0, [.ref aCode_ops, .ref aCode_args])), (aCode_ops, .inl (cI, 200, .inl Code_ops)), (aCode_args, .inl (cI, 200, .inl Code_args_5)), (aLinker, .inr (2, [.ref aCode, .ref aLinker_waiting, .int Linker_open_5, .int Linker_openLoops_5])), (aLinker_waiting, .inl (cI, 8, .inl Linker_waiting_5))] H := hP
          have hD : va_D A [(aDictionary_keys, .inl (cJ, 20, .inr (.inl f_7))), (aDictionary, .inr (1, [.ref aDictionary_keys, .ref aDictionary_starts, .ref aCode, .ref aLinker, .int Dictionary_size, .int Dictionary_openLength])), (aDictionary_starts, .inl (cI, 21, .inl Dictionary_starts)), (aCode, .inr (0, [.ref aCode_ops, .ref aCode_args])), (aCode_ops, .inl (cI, 200, .inl Code_ops)), (aCode_args, .inl (cI, 200, .inl Code_args_5)), (aLinker, .inr (2, [.ref aCode, .ref aLinker_waiting, .int Linker_open_5, .int Linker_openLoops_5])), (aLinker_waiting, .inl (cI, 8, .inl Linker_waiting_5))] := hD
          refine lv_aload_n hx hb dX1_closeBody_69 rfl (lv_at hl 2 rfl) ?_
          refine lv_dup hx hb dX1_closeBody_70 rfl ?_
          refine va_get (D := (dC, dI)) (ci := 1) (v := .int Dictionary_size) (C := RX1) (T := TX1) (N := 6) hx hb hts (fun w h => List.mem_cons_of_mem _ (inX1 w h)) hown hK hP 1 rfl rfl 4 (by decide) (hts _ (List.mem_cons_of_mem _ mw_2)) (fun _ h9 => h9) rfl dX1_closeBody_71 ?_
          refine lv_iconst (v := (1 : Int32)) hx hb dX1_closeBody_74 (by decide) ?_
          refine lv_iadd hx hb dX1_closeBody_75 ?_
          refine va_put (D := (dC, dI)) (ci := 1) (v := .int (Dictionary_size + (1 : Int32))) (ty := .int) (C := RX1) (T := TX1) (N := 6) hx hb hts (fun w h => List.mem_cons_of_mem _ (inX1 w h)) tyX1 tyX1_ok nmX1 hown hK hP hD hS 1 rfl rfl 4 (by decide) (hts _ (List.mem_cons_of_mem _ mw_2)) (fun _ h9 => h9) rfl (by decide +kernel) rfl rfl (Nat.le_of_ble_eq_true rfl) dX1_closeBody_76 (fun H locs hP hD hS => ?_)
          have hP : va_P (dC, dI) vwCl [(aDictionary_keys, .inl (cJ, 20, .inr (.inl f_7))), (aDictionary, .inr (1, [.ref aDictionary_keys, .ref aDictionary_starts, .ref aCode, .ref aLinker, .int (Dictionary_size + (1 : Int32)), .int Dictionary_openLength])), (aDictionary_starts, .inl (cI, 21, .inl Dictionary_starts)), (aCode, .inr (0, [.ref aCode_ops, .ref aCode_args])), (aCode_ops, .inl (cI, 200, .inl Code_ops)), (aCode_args, .inl (cI, 200, .inl Code_args_5)), (aLinker, .inr (2, [.ref aCode, .ref aLinker_waiting, .int Linker_open_5, .int Linker_openLoops_5])), (aLinker_waiting, .inl (cI, 8, .inl Linker_waiting_5))] H := hP
          have hD : va_D A [(aDictionary_keys, .inl (cJ, 20, .inr (.inl f_7))), (aDictionary, .inr (1, [.ref aDictionary_keys, .ref aDictionary_starts, .ref aCode, .ref aLinker, .int (Dictionary_size + (1 : Int32)), .int Dictionary_openLength])), (aDictionary_starts, .inl (cI, 21, .inl Dictionary_starts)), (aCode, .inr (0, [.ref aCode_ops, .ref aCode_args])), (aCode_ops, .inl (cI, 200, .inl Code_ops)), (aCode_args, .inl (cI, 200, .inl Code_args_5)), (aLinker, .inr (2, [.ref aCode, .ref aLinker_waiting, .int Linker_open_5, .int Linker_openLoops_5])), (aLinker_waiting, .inl (cI, 8, .inl Linker_waiting_5))] := hD
          refine lv_aload_n hx hb dX1_closeBody_79 rfl (lv_at hl 2 rfl) ?_
          refine va_get (D := (dC, dI)) (ci := 1) (v := .ref aDictionary_starts) (C := RX1) (T := TX1) (N := 6) hx hb hts (fun w h => List.mem_cons_of_mem _ (inX1 w h)) hown hK hP 1 rfl rfl 1 (by decide) (hts _ (List.mem_cons_of_mem _ mw_4)) (fun _ h9 => h9) rfl dX1_closeBody_80 ?_
          refine lv_aload_n hx hb dX1_closeBody_83 rfl (lv_at hl 2 rfl) ?_
          refine va_get (D := (dC, dI)) (ci := 1) (v := .int (Dictionary_size + (1 : Int32))) (C := RX1) (T := TX1) (N := 6) hx hb hts (fun w h => List.mem_cons_of_mem _ (inX1 w h)) hown hK hP 1 rfl rfl 4 (by decide) (hts _ (List.mem_cons_of_mem _ mw_2)) (fun _ h9 => h9) rfl dX1_closeBody_84 ?_
          refine lv_iload hx hb dX1_closeBody_87 (lv_at hl 0 rfl) ?_
          obtain ⟨f_10, hi_11, h⟩ := bd1_some h
          obtain ⟨hi_11, ex_12⟩ := sa_some hi_11
          refine va_iast hx hb hK hP hD hS 2 0 rfl rfl hi_11 dX1_closeBody_89 (fun H locs hP hD hS => ?_)
          rw [← ex_12] at hP hD
          have hP : va_P (dC, dI) vwCl [(aDictionary_keys, .inl (cJ, 20, .inr (.inl f_7))), (aDictionary, .inr (1, [.ref aDictionary_keys, .ref aDictionary_starts, .ref aCode, .ref aLinker, .int (Dictionary_size + (1 : Int32)), .int Dictionary_openLength])), (aDictionary_starts, .inl (cI, 21, .inl f_10)), (aCode, .inr (0, [.ref aCode_ops, .ref aCode_args])), (aCode_ops, .inl (cI, 200, .inl Code_ops)), (aCode_args, .inl (cI, 200, .inl Code_args_5)), (aLinker, .inr (2, [.ref aCode, .ref aLinker_waiting, .int Linker_open_5, .int Linker_openLoops_5])), (aLinker_waiting, .inl (cI, 8, .inl Linker_waiting_5))] H := hP
          have hD : va_D A [(aDictionary_keys, .inl (cJ, 20, .inr (.inl f_7))), (aDictionary, .inr (1, [.ref aDictionary_keys, .ref aDictionary_starts, .ref aCode, .ref aLinker, .int (Dictionary_size + (1 : Int32)), .int Dictionary_openLength])), (aDictionary_starts, .inl (cI, 21, .inl f_10)), (aCode, .inr (0, [.ref aCode_ops, .ref aCode_args])), (aCode_ops, .inl (cI, 200, .inl Code_ops)), (aCode_args, .inl (cI, 200, .inl Code_args_5)), (aLinker, .inr (2, [.ref aCode, .ref aLinker_waiting, .int Linker_open_5, .int Linker_openLoops_5])), (aLinker_waiting, .inl (cI, 8, .inl Linker_waiting_5))] := hD
          refine lv_iconst (v := (0 : Int32)) hx hb dX1_closeBody_90 (by decide) ?_
          have hP := hP.sub (ws' := [(aCode, .inr (0, [.ref aCode_ops, .ref aCode_args])), (aCode_ops, .inl (cI, 200, .inl Code_ops)), (aCode_args, .inl (cI, 200, .inl Code_args_5)), (aDictionary, .inr (1, [.ref aDictionary_keys, .ref aDictionary_starts, .ref aCode, .ref aLinker, .int (Dictionary_size + (1 : Int32)), .int Dictionary_openLength])), (aDictionary_keys, .inl (cJ, 20, .inr (.inl f_7))), (aDictionary_starts, .inl (cI, 21, .inl f_10)), (aLinker, .inr (2, [.ref aCode, .ref aLinker_waiting, .int Linker_open_5, .int Linker_openLoops_5])), (aLinker_waiting, .inl (cI, 8, .inl Linker_waiting_5))]) [3, 4, 5, 1, 0, 2, 6, 7] rfl
          have hD := hD.sub (ws' := [(aCode, .inr (0, [.ref aCode_ops, .ref aCode_args])), (aCode_ops, .inl (cI, 200, .inl Code_ops)), (aCode_args, .inl (cI, 200, .inl Code_args_5)), (aDictionary, .inr (1, [.ref aDictionary_keys, .ref aDictionary_starts, .ref aCode, .ref aLinker, .int (Dictionary_size + (1 : Int32)), .int Dictionary_openLength])), (aDictionary_keys, .inl (cJ, 20, .inr (.inl f_7))), (aDictionary_starts, .inl (cI, 21, .inl f_10)), (aLinker, .inr (2, [.ref aCode, .ref aLinker_waiting, .int Linker_open_5, .int Linker_openLoops_5])), (aLinker_waiting, .inl (cI, 8, .inl Linker_waiting_5))]) [3, 4, 5, 1, 0, 2, 6, 7] (by decide) rfl
          cases h
          rw [hQ]
          exact W.iret hx hb hr (fun t ht hW => ⟨⟨_, (), rfl, rfl, by rw [ht]; exact hP, va_K.moved hW.alike hK, hD⟩, hS.F ht⟩) hS.2.2 dX1_closeBody_91
        · have h := it_t c_6 h
          refine lv_iconst (v := (2 : Int32)) hx hb dX1_closeBody_57 (by decide) ?_
          have hP := hP.sub (ws' := [(aCode, .inr (0, [.ref aCode_ops, .ref aCode_args])), (aCode_ops, .inl (cI, 200, .inl Code_ops)), (aCode_args, .inl (cI, 200, .inl Code_args_5)), (aDictionary, .inr (1, [.ref aDictionary_keys, .ref aDictionary_starts, .ref aCode, .ref aLinker, .int Dictionary_size, .int Dictionary_openLength])), (aDictionary_keys, .inl (cJ, 20, .inr (.inl Dictionary_keys))), (aDictionary_starts, .inl (cI, 21, .inl Dictionary_starts)), (aLinker, .inr (2, [.ref aCode, .ref aLinker_waiting, .int Linker_open_5, .int Linker_openLoops_5])), (aLinker_waiting, .inl (cI, 8, .inl Linker_waiting_5))]) [3, 4, 5, 1, 0, 2, 6, 7] rfl
          have hD := hD.sub (ws' := [(aCode, .inr (0, [.ref aCode_ops, .ref aCode_args])), (aCode_ops, .inl (cI, 200, .inl Code_ops)), (aCode_args, .inl (cI, 200, .inl Code_args_5)), (aDictionary, .inr (1, [.ref aDictionary_keys, .ref aDictionary_starts, .ref aCode, .ref aLinker, .int Dictionary_size, .int Dictionary_openLength])), (aDictionary_keys, .inl (cJ, 20, .inr (.inl Dictionary_keys))), (aDictionary_starts, .inl (cI, 21, .inl Dictionary_starts)), (aLinker, .inr (2, [.ref aCode, .ref aLinker_waiting, .int Linker_open_5, .int Linker_openLoops_5])), (aLinker_waiting, .inl (cI, 8, .inl Linker_waiting_5))]) [3, 4, 5, 1, 0, 2, 6, 7] (by decide) rfl
          cases h
          rw [hQ]
          exact W.iret hx hb hr (fun t ht hW => ⟨⟨_, (), rfl, rfl, by rw [ht]; exact hP, va_K.moved hW.alike hK, hD⟩, hS.F ht⟩) hS.2.2 dX1_closeBody_58
      · have h := it_f c_4 h
        refine lv_bipush (v := (9 : Int32)) hx hb dX1_closeBody_41 (by decide) ?_
        have hP := hP.sub (ws' := [(aCode, .inr (0, [.ref aCode_ops, .ref aCode_args])), (aCode_ops, .inl (cI, 200, .inl Code_ops)), (aCode_args, .inl (cI, 200, .inl Code_args)), (aDictionary, .inr (1, [.ref aDictionary_keys, .ref aDictionary_starts, .ref aCode, .ref aLinker, .int Dictionary_size, .int Dictionary_openLength])), (aDictionary_keys, .inl (cJ, 20, .inr (.inl Dictionary_keys))), (aDictionary_starts, .inl (cI, 21, .inl Dictionary_starts)), (aLinker, .inr (2, [.ref aCode, .ref aLinker_waiting, .int Linker_open, .int Linker_openLoops])), (aLinker_waiting, .inl (cI, 8, .inl Linker_waiting))]) [0, 1, 2, 6, 3, 7, 4, 5] rfl
        have hD := hD.sub (ws' := [(aCode, .inr (0, [.ref aCode_ops, .ref aCode_args])), (aCode_ops, .inl (cI, 200, .inl Code_ops)), (aCode_args, .inl (cI, 200, .inl Code_args)), (aDictionary, .inr (1, [.ref aDictionary_keys, .ref aDictionary_starts, .ref aCode, .ref aLinker, .int Dictionary_size, .int Dictionary_openLength])), (aDictionary_keys, .inl (cJ, 20, .inr (.inl Dictionary_keys))), (aDictionary_starts, .inl (cI, 21, .inl Dictionary_starts)), (aLinker, .inr (2, [.ref aCode, .ref aLinker_waiting, .int Linker_open, .int Linker_openLoops])), (aLinker_waiting, .inl (cI, 8, .inl Linker_waiting))]) [0, 1, 2, 6, 3, 7, 4, 5] (by decide) rfl
        cases h
        rw [hQ]
        exact W.iret hx hb hr (fun t ht hW => ⟨⟨_, (), rfl, rfl, by rw [ht]; exact hP, va_K.moved hW.alike hK, hD⟩, hS.F ht⟩) hS.2.2 dX1_closeBody_43
