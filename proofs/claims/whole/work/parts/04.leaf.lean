abbrev rmX0_opAt : Room := { frames := 0, cells := 0, slots := 0, locals := 0 }
set_option maxHeartbeats 4000000 in
set_option maxRecDepth 100000 in
theorem ctX0_opAt (l : Launch) (dC : Nat → ClassId) (dI : Nat → Nat → Nat) (cI cC cJ : ClassId) (aCode aCode_ops aCode_args : Nat) (sz : Nat) (Code_ops : Nat → Int32) (p0 : Int32) (rr : Int32)  (h : fnX0_opAt Code_ops p0 = some rr) : Met l yX0_opAt wsX0_opAt rmX0_opAt (va_Pc [.ref aCode, .int p0] (fun U => U.heap.size = sz ∧ va_P (dC, dI) vwCl [(aCode, .inr (0, [.ref aCode_ops, .ref aCode_args])), (aCode_ops, .inl (cI, 200, .inl Code_ops))] U.heap ∧ va_K (dC, dI) vwCl [(cI, .int), (cC, .char), (cJ, .long)] U ∧ va_D (fun _ => True) [(aCode, .inr (0, [.ref aCode_ops, .ref aCode_args])), (aCode_ops, .inl (cI, 200, .inl Code_ops))])) (va_Qi (fun r (_ : Unit) => r = rr) (fun _ t => va_P (dC, dI) vwCl [(aCode, .inr (0, [.ref aCode_ops, .ref aCode_args])), (aCode_ops, .inl (cI, 200, .inl Code_ops))] t.heap ∧ va_K (dC, dI) vwCl [(cI, .int), (cC, .char), (cJ, .long)] t ∧ va_D (va_A [(aCode, .inr (0, [.ref aCode_ops, .ref aCode_args])), (aCode_ops, .inl (cI, 200, .inl Code_ops))] sz) [(aCode, .inr (0, [.ref aCode_ops, .ref aCode_args])), (aCode_ops, .inl (cI, 200, .inl Code_ops))]) (va_A [(aCode, .inr (0, [.ref aCode_ops, .ref aCode_args])), (aCode_ops, .inl (cI, 200, .inl Code_ops))] sz)) 0 0 (va_A [(aCode, .inr (0, [.ref aCode_ops, .ref aCode_args])), (aCode_ops, .inl (cI, 200, .inl Code_ops))] sz) := by
  refine Met.ofW (cc := cX0_opAt) (maxL := 2) (ret := (some .int)) (by decide) rfl ?_
  intro p e s m args below meth c s₁ B hml hv
  obtain ⟨hargs, hsz, hP, hK, hD0⟩ := hv
  have hx := B.exec
  have hb := B.bytes
  have hr := B.returns
  have hts := atoms_spec (ws := wsX0_opAt) B.pre
  have hown : s.vm.findClass RX0 = some m.cls := findClass_of_methodNamed B.named
  have hlocks := B.notSynchronized
  subst hsz
  have hD := hD0.self (sz := s.heap.size)
  generalize hAe : va_A [(aCode, .inr (0, [.ref aCode_ops, .ref aCode_args])), (aCode_ops, .inl (cI, 200, .inl Code_ops))] s.heap.size = A at hD ⊢
  have hA : ∀ q : Nat, s.heap.size ≤ q → A q := fun q h => by rw [← hAe]; exact Or.inr h
  have hS : va_S A s.heap s.heap [] := va_S.rf
  have hl := lv_entry ([.ref aCode, .int p0]) (n := 2) (Nat.le_of_ble_eq_true rfl)
  have hfr : entryFrame m args 2 = entryFrame m ([.ref aCode, .int p0] : List Value).toArray 2 := by rw [hargs]
  rw [hfr, lg_entry_eq]
  generalize (lg_sl ([.ref aCode, .int p0]) ++ List.replicate (2 - (lg_sl ([.ref aCode, .int p0])).length) Slot.unset).toArray = ls at hl ⊢
  have hl : lv_has ls 2 [(0, .ref aCode), (1, .int p0)] := hl
  refine nameQ_ (fun Q hQ => ?_)
  unfold fnX0_opAt at h
  refine lv_iload_n hx hb dX0_opAt_0 rfl (lv_at hl 1 rfl) ?_
  refine lv_if_lt (tgt := 20) hx hb dX0_opAt_1 (by decide) (fun c_1 => ?_) (fun c_1 => ?_)
  · have h := it_t c_1 h
    refine lv_bipush (v := (52 : Int32)) hx hb dX0_opAt_20 (by decide) ?_
    cases h
    rw [hQ]
    exact W.iret hx hb hr (fun t ht hW => ⟨⟨_, (), rfl, rfl, by rw [ht]; exact hP, va_K.moved hW.alike hK, hD⟩, hS.F ht⟩) hS.2.2 dX0_opAt_22
  · have h := it_f c_1 h
    refine lv_iload_n hx hb dX0_opAt_4 rfl (lv_at hl 1 rfl) ?_
    refine lv_sipush (v := (200 : Int32)) hx hb dX0_opAt_5 (by decide) ?_
    refine lv_icmp_ge (tgt := 20) hx hb dX0_opAt_8 (by decide) (fun c_2 => ?_) (fun c_2 => ?_)
    · have h := it_t c_2 h
      refine lv_bipush (v := (52 : Int32)) hx hb dX0_opAt_20 (by decide) ?_
      cases h
      rw [hQ]
      exact W.iret hx hb hr (fun t ht hW => ⟨⟨_, (), rfl, rfl, by rw [ht]; exact hP, va_K.moved hW.alike hK, hD⟩, hS.F ht⟩) hS.2.2 dX0_opAt_22
    · have h := it_f c_2 h
      refine lv_aload_n hx hb dX0_opAt_11 rfl (lv_at hl 0 rfl) ?_
      refine va_get (D := (dC, dI)) (ci := 0) (v := .ref aCode_ops) (C := RX0) (T := TX0) (N := 2) hx hb hts (fun w h => List.mem_cons_of_mem _ (inX0 w h)) hown hK hP 0 rfl rfl 0 (by decide) (hts _ (List.mem_cons_of_mem _ mw_0)) (fun _ h9 => h9) rfl dX0_opAt_12 ?_
      refine lv_iload_n hx hb dX0_opAt_15 rfl (lv_at hl 1 rfl) ?_
      obtain ⟨x_3, hi_4, h⟩ := bd1_some h
      obtain ⟨hi_4, ex_5⟩ := ga_some hi_4
      refine va_iald hx hb hK hP 1 0 rfl rfl hi_4 dX0_opAt_16 ?_
      rw [← ex_5]
      refine lv_goto (tgt := 22) hx hb dX0_opAt_17 (by decide) ?_
      cases h
      rw [hQ]
      exact W.iret hx hb hr (fun t ht hW => ⟨⟨_, (), rfl, rfl, by rw [ht]; exact hP, va_K.moved hW.alike hK, hD⟩, hS.F ht⟩) hS.2.2 dX0_opAt_22
abbrev rmX0_argAt : Room := { frames := 0, cells := 0, slots := 0, locals := 0 }
set_option maxHeartbeats 4000000 in
set_option maxRecDepth 100000 in
theorem ctX0_argAt (l : Launch) (dC : Nat → ClassId) (dI : Nat → Nat → Nat) (cI cC cJ : ClassId) (aCode aCode_ops aCode_args : Nat) (sz : Nat) (Code_args : Nat → Int32) (p0 : Int32) (rr : Int32)  (h : fnX0_argAt Code_args p0 = some rr) : Met l yX0_argAt wsX0_argAt rmX0_argAt (va_Pc [.ref aCode, .int p0] (fun U => U.heap.size = sz ∧ va_P (dC, dI) vwCl [(aCode, .inr (0, [.ref aCode_ops, .ref aCode_args])), (aCode_args, .inl (cI, 200, .inl Code_args))] U.heap ∧ va_K (dC, dI) vwCl [(cI, .int), (cC, .char), (cJ, .long)] U ∧ va_D (fun _ => True) [(aCode, .inr (0, [.ref aCode_ops, .ref aCode_args])), (aCode_args, .inl (cI, 200, .inl Code_args))])) (va_Qi (fun r (_ : Unit) => r = rr) (fun _ t => va_P (dC, dI) vwCl [(aCode, .inr (0, [.ref aCode_ops, .ref aCode_args])), (aCode_args, .inl (cI, 200, .inl Code_args))] t.heap ∧ va_K (dC, dI) vwCl [(cI, .int), (cC, .char), (cJ, .long)] t ∧ va_D (va_A [(aCode, .inr (0, [.ref aCode_ops, .ref aCode_args])), (aCode_args, .inl (cI, 200, .inl Code_args))] sz) [(aCode, .inr (0, [.ref aCode_ops, .ref aCode_args])), (aCode_args, .inl (cI, 200, .inl Code_args))]) (va_A [(aCode, .inr (0, [.ref aCode_ops, .ref aCode_args])), (aCode_args, .inl (cI, 200, .inl Code_args))] sz)) 0 0 (va_A [(aCode, .inr (0, [.ref aCode_ops, .ref aCode_args])), (aCode_args, .inl (cI, 200, .inl Code_args))] sz) := by
  refine Met.ofW (cc := cX0_argAt) (maxL := 2) (ret := (some .int)) (by decide) rfl ?_
  intro p e s m args below meth c s₁ B hml hv
  obtain ⟨hargs, hsz, hP, hK, hD0⟩ := hv
  have hx := B.exec
  have hb := B.bytes
  have hr := B.returns
  have hts := atoms_spec (ws := wsX0_argAt) B.pre
  have hown : s.vm.findClass RX0 = some m.cls := findClass_of_methodNamed B.named
  have hlocks := B.notSynchronized
  subst hsz
  have hD := hD0.self (sz := s.heap.size)
  generalize hAe : va_A [(aCode, .inr (0, [.ref aCode_ops, .ref aCode_args])), (aCode_args, .inl (cI, 200, .inl Code_args))] s.heap.size = A at hD ⊢
  have hA : ∀ q : Nat, s.heap.size ≤ q → A q := fun q h => by rw [← hAe]; exact Or.inr h
  have hS : va_S A s.heap s.heap [] := va_S.rf
  have hl := lv_entry ([.ref aCode, .int p0]) (n := 2) (Nat.le_of_ble_eq_true rfl)
  have hfr : entryFrame m args 2 = entryFrame m ([.ref aCode, .int p0] : List Value).toArray 2 := by rw [hargs]
  rw [hfr, lg_entry_eq]
  generalize (lg_sl ([.ref aCode, .int p0]) ++ List.replicate (2 - (lg_sl ([.ref aCode, .int p0])).length) Slot.unset).toArray = ls at hl ⊢
  have hl : lv_has ls 2 [(0, .ref aCode), (1, .int p0)] := hl
  refine nameQ_ (fun Q hQ => ?_)
  unfold fnX0_argAt at h
  refine lv_iload_n hx hb dX0_argAt_0 rfl (lv_at hl 1 rfl) ?_
  refine lv_if_lt (tgt := 20) hx hb dX0_argAt_1 (by decide) (fun c_1 => ?_) (fun c_1 => ?_)
  · have h := it_t c_1 h
    refine lv_iconst (v := (0 : Int32)) hx hb dX0_argAt_20 (by decide) ?_
    cases h
    rw [hQ]
    exact W.iret hx hb hr (fun t ht hW => ⟨⟨_, (), rfl, rfl, by rw [ht]; exact hP, va_K.moved hW.alike hK, hD⟩, hS.F ht⟩) hS.2.2 dX0_argAt_21
  · have h := it_f c_1 h
    refine lv_iload_n hx hb dX0_argAt_4 rfl (lv_at hl 1 rfl) ?_
    refine lv_sipush (v := (200 : Int32)) hx hb dX0_argAt_5 (by decide) ?_
    refine lv_icmp_ge (tgt := 20) hx hb dX0_argAt_8 (by decide) (fun c_2 => ?_) (fun c_2 => ?_)
    · have h := it_t c_2 h
      refine lv_iconst (v := (0 : Int32)) hx hb dX0_argAt_20 (by decide) ?_
      cases h
      rw [hQ]
      exact W.iret hx hb hr (fun t ht hW => ⟨⟨_, (), rfl, rfl, by rw [ht]; exact hP, va_K.moved hW.alike hK, hD⟩, hS.F ht⟩) hS.2.2 dX0_argAt_21
    · have h := it_f c_2 h
      refine lv_aload_n hx hb dX0_argAt_11 rfl (lv_at hl 0 rfl) ?_
      refine va_get (D := (dC, dI)) (ci := 0) (v := .ref aCode_args) (C := RX0) (T := TX0) (N := 2) hx hb hts (fun w h => List.mem_cons_of_mem _ (inX0 w h)) hown hK hP 0 rfl rfl 1 (by decide) (hts _ (List.mem_cons_of_mem _ mw_1)) (fun _ h9 => h9) rfl dX0_argAt_12 ?_
      refine lv_iload_n hx hb dX0_argAt_15 rfl (lv_at hl 1 rfl) ?_
      obtain ⟨x_3, hi_4, h⟩ := bd1_some h
      obtain ⟨hi_4, ex_5⟩ := ga_some hi_4
      refine va_iald hx hb hK hP 1 0 rfl rfl hi_4 dX0_argAt_16 ?_
      rw [← ex_5]
      refine lv_goto (tgt := 21) hx hb dX0_argAt_17 (by decide) ?_
      cases h
      rw [hQ]
      exact W.iret hx hb hr (fun t ht hW => ⟨⟨_, (), rfl, rfl, by rw [ht]; exact hP, va_K.moved hW.alike hK, hD⟩, hS.F ht⟩) hS.2.2 dX0_argAt_21
abbrev rmX0_set : Room := { frames := 0, cells := 0, slots := 0, locals := 0 }
set_option maxHeartbeats 4000000 in
set_option maxRecDepth 100000 in
theorem ctX0_set (l : Launch) (dC : Nat → ClassId) (dI : Nat → Nat → Nat) (cI cC cJ : ClassId) (aCode aCode_ops aCode_args : Nat) (sz : Nat) (Code_ops : Nat → Int32) (Code_args : Nat → Int32) (p0 : Int32) (p1 : Int32) (p2 : Int32) (w_Code_ops : Nat → Int32) (w_Code_args : Nat → Int32) (h : fnX0_set Code_ops Code_args p0 p1 p2 = some (w_Code_ops, w_Code_args)) : Met l yX0_set wsX0_set rmX0_set (va_Pc [.ref aCode, .int p0, .int p1, .int p2] (fun U => U.heap.size = sz ∧ va_P (dC, dI) vwCl [(aCode, .inr (0, [.ref aCode_ops, .ref aCode_args])), (aCode_ops, .inl (cI, 200, .inl Code_ops)), (aCode_args, .inl (cI, 200, .inl Code_args))] U.heap ∧ va_K (dC, dI) vwCl [(cI, .int), (cC, .char), (cJ, .long)] U ∧ va_D (fun _ => True) [(aCode, .inr (0, [.ref aCode_ops, .ref aCode_args])), (aCode_ops, .inl (cI, 200, .inl Code_ops)), (aCode_args, .inl (cI, 200, .inl Code_args))])) (va_Qv (fun (_ : Unit) => True) (fun _ t => va_P (dC, dI) vwCl [(aCode, .inr (0, [.ref aCode_ops, .ref aCode_args])), (aCode_ops, .inl (cI, 200, .inl w_Code_ops)), (aCode_args, .inl (cI, 200, .inl w_Code_args))] t.heap ∧ va_K (dC, dI) vwCl [(cI, .int), (cC, .char), (cJ, .long)] t ∧ va_D (va_A [(aCode, .inr (0, [.ref aCode_ops, .ref aCode_args])), (aCode_ops, .inl (cI, 200, .inl Code_ops)), (aCode_args, .inl (cI, 200, .inl Code_args))] sz) [(aCode, .inr (0, [.ref aCode_ops, .ref aCode_args])), (aCode_ops, .inl (cI, 200, .inl w_Code_ops)), (aCode_args, .inl (cI, 200, .inl w_Code_args))]) (va_A [(aCode, .inr (0, [.ref aCode_ops, .ref aCode_args])), (aCode_ops, .inl (cI, 200, .inl Code_ops)), (aCode_args, .inl (cI, 200, .inl Code_args))] sz)) 0 0 (va_A [(aCode, .inr (0, [.ref aCode_ops, .ref aCode_args])), (aCode_ops, .inl (cI, 200, .inl Code_ops)), (aCode_args, .inl (cI, 200, .inl Code_args))] sz) := by
  refine Met.ofW (cc := cX0_set) (maxL := 4) (ret := none) (by decide) rfl ?_
  intro p e s m args below meth c s₁ B hml hv
  obtain ⟨hargs, hsz, hP, hK, hD0⟩ := hv
  have hx := B.exec
  have hb := B.bytes
  have hr := B.returns
  have hts := atoms_spec (ws := wsX0_set) B.pre
  have hown : s.vm.findClass RX0 = some m.cls := findClass_of_methodNamed B.named
  have hlocks := B.notSynchronized
  subst hsz
  have hD := hD0.self (sz := s.heap.size)
  generalize hAe : va_A [(aCode, .inr (0, [.ref aCode_ops, .ref aCode_args])), (aCode_ops, .inl (cI, 200, .inl Code_ops)), (aCode_args, .inl (cI, 200, .inl Code_args))] s.heap.size = A at hD ⊢
  have hA : ∀ q : Nat, s.heap.size ≤ q → A q := fun q h => by rw [← hAe]; exact Or.inr h
  have hS : va_S A s.heap s.heap [] := va_S.rf
  have hl := lv_entry ([.ref aCode, .int p0, .int p1, .int p2]) (n := 4) (Nat.le_of_ble_eq_true rfl)
  have hfr : entryFrame m args 4 = entryFrame m ([.ref aCode, .int p0, .int p1, .int p2] : List Value).toArray 4 := by rw [hargs]
  rw [hfr, lg_entry_eq]
  generalize (lg_sl ([.ref aCode, .int p0, .int p1, .int p2]) ++ List.replicate (4 - (lg_sl ([.ref aCode, .int p0, .int p1, .int p2])).length) Slot.unset).toArray = ls at hl ⊢
  have hl : lv_has ls 4 [(0, .ref aCode), (1, .int p0), (2, .int p1), (3, .int p2)] := hl
  refine nameQ_ (fun Q hQ => ?_)
  unfold fnX0_set at h
  refine lv_iload_n hx hb dX0_set_0 rfl (lv_at hl 1 rfl) ?_
  refine lv_if_lt (tgt := 25) hx hb dX0_set_1 (by decide) (fun c_1 => ?_) (fun c_1 => ?_)
  · have h := it_t c_1 h
    cases h
    rw [hQ]
    exact W.vret hx hb hr (fun t ht hW => ⟨⟨(), rfl, trivial, by rw [ht]; exact hP, va_K.moved hW.alike hK, hD⟩, hS.F ht⟩) hS.2.2 dX0_set_25
  · have h := it_f c_1 h
    refine lv_iload_n hx hb dX0_set_4 rfl (lv_at hl 1 rfl) ?_
    refine lv_sipush (v := (200 : Int32)) hx hb dX0_set_5 (by decide) ?_
    refine lv_icmp_ge (tgt := 25) hx hb dX0_set_8 (by decide) (fun c_2 => ?_) (fun c_2 => ?_)
    · have h := it_t c_2 h
      cases h
      rw [hQ]
      exact W.vret hx hb hr (fun t ht hW => ⟨⟨(), rfl, trivial, by rw [ht]; exact hP, va_K.moved hW.alike hK, hD⟩, hS.F ht⟩) hS.2.2 dX0_set_25
    · have h := it_f c_2 h
      refine lv_aload_n hx hb dX0_set_11 rfl (lv_at hl 0 rfl) ?_
      refine va_get (D := (dC, dI)) (ci := 0) (v := .ref aCode_ops) (C := RX0) (T := TX0) (N := 2) hx hb hts (fun w h => List.mem_cons_of_mem _ (inX0 w h)) hown hK hP 0 rfl rfl 0 (by decide) (hts _ (List.mem_cons_of_mem _ mw_0)) (fun _ h9 => h9) rfl dX0_set_12 ?_
      refine lv_iload_n hx hb dX0_set_15 rfl (lv_at hl 1 rfl) ?_
      refine lv_iload_n hx hb dX0_set_16 rfl (lv_at hl 2 rfl) ?_
      obtain ⟨f_3, hi_4, h⟩ := bd1_some h
      obtain ⟨hi_4, ex_5⟩ := sa_some hi_4
      refine va_iast hx hb hK hP hD hS 1 0 rfl rfl hi_4 dX0_set_17 (fun H locs hP hD hS => ?_)
      rw [← ex_5] at hP hD
      have hP : va_P (dC, dI) vwCl [(aCode, .inr (0, [.ref aCode_ops, .ref aCode_args])), (aCode_ops, .inl (cI, 200, .inl f_3)), (aCode_args, .inl (cI, 200, .inl Code_args))] H := hP
      have hD : va_D A [(aCode, .inr (0, [.ref aCode_ops, .ref aCode_args])), (aCode_ops, .inl (cI, 200, .inl f_3)), (aCode_args, .inl (cI, 200, .inl Code_args))] := hD
      refine lv_aload_n hx hb dX0_set_18 rfl (lv_at hl 0 rfl) ?_
      refine va_get (D := (dC, dI)) (ci := 0) (v := .ref aCode_args) (C := RX0) (T := TX0) (N := 2) hx hb hts (fun w h => List.mem_cons_of_mem _ (inX0 w h)) hown hK hP 0 rfl rfl 1 (by decide) (hts _ (List.mem_cons_of_mem _ mw_1)) (fun _ h9 => h9) rfl dX0_set_19 ?_
      refine lv_iload_n hx hb dX0_set_22 rfl (lv_at hl 1 rfl) ?_
      refine lv_iload_n hx hb dX0_set_23 rfl (lv_at hl 3 rfl) ?_
      obtain ⟨f_6, hi_7, h⟩ := bd1_some h
      obtain ⟨hi_7, ex_8⟩ := sa_some hi_7
      refine va_iast hx hb hK hP hD hS 2 0 rfl rfl hi_7 dX0_set_24 (fun H locs hP hD hS => ?_)
      rw [← ex_8] at hP hD
      have hP : va_P (dC, dI) vwCl [(aCode, .inr (0, [.ref aCode_ops, .ref aCode_args])), (aCode_ops, .inl (cI, 200, .inl f_3)), (aCode_args, .inl (cI, 200, .inl f_6))] H := hP
      have hD : va_D A [(aCode, .inr (0, [.ref aCode_ops, .ref aCode_args])), (aCode_ops, .inl (cI, 200, .inl f_3)), (aCode_args, .inl (cI, 200, .inl f_6))] := hD
      cases h
      rw [hQ]
      exact W.vret hx hb hr (fun t ht hW => ⟨⟨(), rfl, trivial, by rw [ht]; exact hP, va_K.moved hW.alike hK, hD⟩, hS.F ht⟩) hS.2.2 dX0_set_25
abbrev rmX0_lead : Room := { frames := 0, cells := 0, slots := 0, locals := 0 }
set_option maxHeartbeats 4000000 in
set_option maxRecDepth 100000 in
theorem ctX0_lead (l : Launch) (dC : Nat → ClassId) (dI : Nat → Nat → Nat) (cI cC cJ : ClassId) (aCode aCode_ops aCode_args : Nat) (sz : Nat) (Code_args : Nat → Int32) (p0 : Int32) (p1 : Int32) (w_Code_args : Nat → Int32) (h : fnX0_lead Code_args p0 p1 = some w_Code_args) : Met l yX0_lead wsX0_lead rmX0_lead (va_Pc [.ref aCode, .int p0, .int p1] (fun U => U.heap.size = sz ∧ va_P (dC, dI) vwCl [(aCode, .inr (0, [.ref aCode_ops, .ref aCode_args])), (aCode_args, .inl (cI, 200, .inl Code_args))] U.heap ∧ va_K (dC, dI) vwCl [(cI, .int), (cC, .char), (cJ, .long)] U ∧ va_D (fun _ => True) [(aCode, .inr (0, [.ref aCode_ops, .ref aCode_args])), (aCode_args, .inl (cI, 200, .inl Code_args))])) (va_Qv (fun (_ : Unit) => True) (fun _ t => va_P (dC, dI) vwCl [(aCode, .inr (0, [.ref aCode_ops, .ref aCode_args])), (aCode_args, .inl (cI, 200, .inl w_Code_args))] t.heap ∧ va_K (dC, dI) vwCl [(cI, .int), (cC, .char), (cJ, .long)] t ∧ va_D (va_A [(aCode, .inr (0, [.ref aCode_ops, .ref aCode_args])), (aCode_args, .inl (cI, 200, .inl Code_args))] sz) [(aCode, .inr (0, [.ref aCode_ops, .ref aCode_args])), (aCode_args, .inl (cI, 200, .inl w_Code_args))]) (va_A [(aCode, .inr (0, [.ref aCode_ops, .ref aCode_args])), (aCode_args, .inl (cI, 200, .inl Code_args))] sz)) 0 0 (va_A [(aCode, .inr (0, [.ref aCode_ops, .ref aCode_args])), (aCode_args, .inl (cI, 200, .inl Code_args))] sz) := by
  refine Met.ofW (cc := cX0_lead) (maxL := 3) (ret := none) (by decide) rfl ?_
  intro p e s m args below meth c s₁ B hml hv
  obtain ⟨hargs, hsz, hP, hK, hD0⟩ := hv
  have hx := B.exec
  have hb := B.bytes
  have hr := B.returns
  have hts := atoms_spec (ws := wsX0_lead) B.pre
  have hown : s.vm.findClass RX0 = some m.cls := findClass_of_methodNamed B.named
  have hlocks := B.notSynchronized
  subst hsz
  have hD := hD0.self (sz := s.heap.size)
  generalize hAe : va_A [(aCode, .inr (0, [.ref aCode_ops, .ref aCode_args])), (aCode_args, .inl (cI, 200, .inl Code_args))] s.heap.size = A at hD ⊢
  have hA : ∀ q : Nat, s.heap.size ≤ q → A q := fun q h => by rw [← hAe]; exact Or.inr h
  have hS : va_S A s.heap s.heap [] := va_S.rf
  have hl := lv_entry ([.ref aCode, .int p0, .int p1]) (n := 3) (Nat.le_of_ble_eq_true rfl)
  have hfr : entryFrame m args 3 = entryFrame m ([.ref aCode, .int p0, .int p1] : List Value).toArray 3 := by rw [hargs]
  rw [hfr, lg_entry_eq]
  generalize (lg_sl ([.ref aCode, .int p0, .int p1]) ++ List.replicate (3 - (lg_sl ([.ref aCode, .int p0, .int p1])).length) Slot.unset).toArray = ls at hl ⊢
  have hl : lv_has ls 3 [(0, .ref aCode), (1, .int p0), (2, .int p1)] := hl
  refine nameQ_ (fun Q hQ => ?_)
  unfold fnX0_lead at h
  refine lv_iload_n hx hb dX0_lead_0 rfl (lv_at hl 1 rfl) ?_
  refine lv_if_lt (tgt := 18) hx hb dX0_lead_1 (by decide) (fun c_1 => ?_) (fun c_1 => ?_)
  · have h := it_t c_1 h
    cases h
    rw [hQ]
    exact W.vret hx hb hr (fun t ht hW => ⟨⟨(), rfl, trivial, by rw [ht]; exact hP, va_K.moved hW.alike hK, hD⟩, hS.F ht⟩) hS.2.2 dX0_lead_18
  · have h := it_f c_1 h
    refine lv_iload_n hx hb dX0_lead_4 rfl (lv_at hl 1 rfl) ?_
    refine lv_sipush (v := (200 : Int32)) hx hb dX0_lead_5 (by decide) ?_
    refine lv_icmp_ge (tgt := 18) hx hb dX0_lead_8 (by decide) (fun c_2 => ?_) (fun c_2 => ?_)
    · have h := it_t c_2 h
      cases h
      rw [hQ]
      exact W.vret hx hb hr (fun t ht hW => ⟨⟨(), rfl, trivial, by rw [ht]; exact hP, va_K.moved hW.alike hK, hD⟩, hS.F ht⟩) hS.2.2 dX0_lead_18
    · have h := it_f c_2 h
      refine lv_aload_n hx hb dX0_lead_11 rfl (lv_at hl 0 rfl) ?_
      refine va_get (D := (dC, dI)) (ci := 0) (v := .ref aCode_args) (C := RX0) (T := TX0) (N := 2) hx hb hts (fun w h => List.mem_cons_of_mem _ (inX0 w h)) hown hK hP 0 rfl rfl 1 (by decide) (hts _ (List.mem_cons_of_mem _ mw_1)) (fun _ h9 => h9) rfl dX0_lead_12 ?_
      refine lv_iload_n hx hb dX0_lead_15 rfl (lv_at hl 1 rfl) ?_
      refine lv_iload_n hx hb dX0_lead_16 rfl (lv_at hl 2 rfl) ?_
      obtain ⟨f_3, hi_4, h⟩ := bd1_some h
      obtain ⟨hi_4, ex_5⟩ := sa_some hi_4
      refine va_iast hx hb hK hP hD hS 1 0 rfl rfl hi_4 dX0_lead_17 (fun H locs hP hD hS => ?_)
      rw [← ex_5] at hP hD
      have hP : va_P (dC, dI) vwCl [(aCode, .inr (0, [.ref aCode_ops, .ref aCode_args])), (aCode_args, .inl (cI, 200, .inl f_3))] H := hP
      have hD : va_D A [(aCode, .inr (0, [.ref aCode_ops, .ref aCode_args])), (aCode_args, .inl (cI, 200, .inl f_3))] := hD
      cases h
      rw [hQ]
      exact W.vret hx hb hr (fun t ht hW => ⟨⟨(), rfl, trivial, by rw [ht]; exact hP, va_K.moved hW.alike hK, hD⟩, hS.F ht⟩) hS.2.2 dX0_lead_18
abbrev rmX4_closeDownTo : Room := { frames := 0, cells := 0, slots := 0, locals := 0 }
set_option maxHeartbeats 4000000 in
set_option maxRecDepth 100000 in
theorem ctX4_closeDownTo (l : Launch) (dC : Nat → ClassId) (dI : Nat → Nat → Nat) (cI cC cJ : ClassId) (aLoops aLoops_counts aLoops_limits : Nat) (sz : Nat) (Loops_open : Int32) (p0 : Int32) (w_Loops_open : Int32) (h : fnX4_closeDownTo Loops_open p0 = some w_Loops_open) : Met l yX4_closeDownTo wsX4_closeDownTo rmX4_closeDownTo (va_Pc [.ref aLoops, .int p0] (fun U => U.heap.size = sz ∧ va_P (dC, dI) vwCl [(aLoops, .inr (4, [.ref aLoops_counts, .ref aLoops_limits, .int Loops_open]))] U.heap ∧ va_K (dC, dI) vwCl [(cI, .int), (cC, .char), (cJ, .long)] U ∧ va_D (fun _ => True) [(aLoops, .inr (4, [.ref aLoops_counts, .ref aLoops_limits, .int Loops_open]))])) (va_Qv (fun (_ : Unit) => True) (fun _ t => va_P (dC, dI) vwCl [(aLoops, .inr (4, [.ref aLoops_counts, .ref aLoops_limits, .int w_Loops_open]))] t.heap ∧ va_K (dC, dI) vwCl [(cI, .int), (cC, .char), (cJ, .long)] t ∧ va_D (va_A [(aLoops, .inr (4, [.ref aLoops_counts, .ref aLoops_limits, .int Loops_open]))] sz) [(aLoops, .inr (4, [.ref aLoops_counts, .ref aLoops_limits, .int w_Loops_open]))]) (va_A [(aLoops, .inr (4, [.ref aLoops_counts, .ref aLoops_limits, .int Loops_open]))] sz)) 0 0 (va_A [(aLoops, .inr (4, [.ref aLoops_counts, .ref aLoops_limits, .int Loops_open]))] sz) := by
  refine Met.ofW (cc := cX4_closeDownTo) (maxL := 2) (ret := none) (by decide) rfl ?_
  intro p e s m args below meth c s₁ B hml hv
  obtain ⟨hargs, hsz, hP, hK, hD0⟩ := hv
  have hx := B.exec
  have hb := B.bytes
  have hr := B.returns
  have hts := atoms_spec (ws := wsX4_closeDownTo) B.pre
  have hown : s.vm.findClass RX4 = some m.cls := findClass_of_methodNamed B.named
  have hlocks := B.notSynchronized
  subst hsz
  have hD := hD0.self (sz := s.heap.size)
  generalize hAe : va_A [(aLoops, .inr (4, [.ref aLoops_counts, .ref aLoops_limits, .int Loops_open]))] s.heap.size = A at hD ⊢
  have hA : ∀ q : Nat, s.heap.size ≤ q → A q := fun q h => by rw [← hAe]; exact Or.inr h
  have hS : va_S A s.heap s.heap [] := va_S.rf
  have hl := lv_entry ([.ref aLoops, .int p0]) (n := 2) (Nat.le_of_ble_eq_true rfl)
  have hfr : entryFrame m args 2 = entryFrame m ([.ref aLoops, .int p0] : List Value).toArray 2 := by rw [hargs]
  rw [hfr, lg_entry_eq]
  generalize (lg_sl ([.ref aLoops, .int p0]) ++ List.replicate (2 - (lg_sl ([.ref aLoops, .int p0])).length) Slot.unset).toArray = ls at hl ⊢
  have hl : lv_has ls 2 [(0, .ref aLoops), (1, .int p0)] := hl
  refine nameQ_ (fun Q hQ => ?_)
  unfold fnX4_closeDownTo at h
  refine lv_iload_n hx hb dX4_closeDownTo_0 rfl (lv_at hl 1 rfl) ?_
  refine lv_if_lt (tgt := 17) hx hb dX4_closeDownTo_1 (by decide) (fun c_1 => ?_) (fun c_1 => ?_)
  · have h := it_t c_1 h
    cases h
    rw [hQ]
    exact W.vret hx hb hr (fun t ht hW => ⟨⟨(), rfl, trivial, by rw [ht]; exact hP, va_K.moved hW.alike hK, hD⟩, hS.F ht⟩) hS.2.2 dX4_closeDownTo_17
  · have h := it_f c_1 h
    refine lv_iload_n hx hb dX4_closeDownTo_4 rfl (lv_at hl 1 rfl) ?_
    refine lv_aload_n hx hb dX4_closeDownTo_5 rfl (lv_at hl 0 rfl) ?_
    refine va_get (D := (dC, dI)) (ci := 4) (v := .int Loops_open) (C := RX4) (T := TX4) (N := 3) hx hb hts (fun w h => List.mem_cons_of_mem _ (inX4 w h)) hown hK hP 0 rfl rfl 2 (by decide) (hts _ (List.mem_cons_of_mem _ mw_56)) (fun _ h9 => h9) rfl dX4_closeDownTo_6 ?_
    refine lv_icmp_ge (tgt := 17) hx hb dX4_closeDownTo_9 (by decide) (fun c_2 => ?_) (fun c_2 => ?_)
    · have h := it_t c_2 h
      cases h
      rw [hQ]
      exact W.vret hx hb hr (fun t ht hW => ⟨⟨(), rfl, trivial, by rw [ht]; exact hP, va_K.moved hW.alike hK, hD⟩, hS.F ht⟩) hS.2.2 dX4_closeDownTo_17
    · have h := it_f c_2 h
      refine lv_aload_n hx hb dX4_closeDownTo_12 rfl (lv_at hl 0 rfl) ?_
      refine lv_iload_n hx hb dX4_closeDownTo_13 rfl (lv_at hl 1 rfl) ?_
      refine va_put (D := (dC, dI)) (ci := 4) (v := .int p0) (ty := .int) (C := RX4) (T := TX4) (N := 3) hx hb hts (fun w h => List.mem_cons_of_mem _ (inX4 w h)) tyX4 tyX4_ok nmX4 hown hK hP hD hS 0 rfl rfl 2 (by decide) (hts _ (List.mem_cons_of_mem _ mw_56)) (fun _ h9 => h9) rfl (by decide +kernel) rfl rfl (Nat.le_of_ble_eq_true rfl) dX4_closeDownTo_14 (fun H locs hP hD hS => ?_)
      have hP : va_P (dC, dI) vwCl [(aLoops, .inr (4, [.ref aLoops_counts, .ref aLoops_limits, .int p0]))] H := hP
      have hD : va_D A [(aLoops, .inr (4, [.ref aLoops_counts, .ref aLoops_limits, .int p0]))] := hD
      cases h
      rw [hQ]
      exact W.vret hx hb hr (fun t ht hW => ⟨⟨(), rfl, trivial, by rw [ht]; exact hP, va_K.moved hW.alike hK, hD⟩, hS.F ht⟩) hS.2.2 dX4_closeDownTo_17
abbrev rmX6_isPlain : Room := { frames := 0, cells := 0, slots := 0, locals := 0 }
set_option maxHeartbeats 4000000 in
set_option maxRecDepth 100000 in
theorem ctX6_isPlain (l : Launch) (dC : Nat → ClassId) (dI : Nat → Nat → Nat) (cI cC cJ : ClassId) (sz : Nat)  (p0 : Int32) (rr : Int32)  (h : fnX6_isPlain  p0 = some rr) : Met l yX6_isPlain wsX6_isPlain rmX6_isPlain (va_Pc [.int p0] (fun U => U.heap.size = sz ∧ va_P (dC, dI) vwCl [] U.heap ∧ va_K (dC, dI) vwCl [(cI, .int), (cC, .char), (cJ, .long)] U ∧ va_D (fun _ => True) [])) (va_Qi (fun r (_ : Unit) => r = rr) (fun _ t => va_P (dC, dI) vwCl [] t.heap ∧ va_K (dC, dI) vwCl [(cI, .int), (cC, .char), (cJ, .long)] t ∧ va_D (va_A [] sz) []) (va_A [] sz)) 0 0 (va_A [] sz) := by
  refine Met.ofW (cc := cX6_isPlain) (maxL := 1) (ret := (some .boolean)) (by decide) rfl ?_
  intro p e s m args below meth c s₁ B hml hv
  obtain ⟨hargs, hsz, hP, hK, hD0⟩ := hv
  have hx := B.exec
  have hb := B.bytes
  have hr := B.returns
  have hts := atoms_spec (ws := wsX6_isPlain) B.pre
  have hown : s.vm.findClass RX6 = some m.cls := findClass_of_methodNamed B.named
  have hlocks := B.notSynchronized
  subst hsz
  have hD := hD0.self (sz := s.heap.size)
  generalize hAe : va_A [] s.heap.size = A at hD ⊢
  have hA : ∀ q : Nat, s.heap.size ≤ q → A q := fun q h => by rw [← hAe]; exact Or.inr h
  have hS : va_S A s.heap s.heap [] := va_S.rf
  have hl := lv_entry ([.int p0]) (n := 1) (Nat.le_of_ble_eq_true rfl)
  have hfr : entryFrame m args 1 = entryFrame m ([.int p0] : List Value).toArray 1 := by rw [hargs]
  rw [hfr, lg_entry_eq]
  generalize (lg_sl ([.int p0]) ++ List.replicate (1 - (lg_sl ([.int p0])).length) Slot.unset).toArray = ls at hl ⊢
  have hl : lv_has ls 1 [(0, .int p0)] := hl
  refine nameQ_ (fun Q hQ => ?_)
  unfold fnX6_isPlain at h
  refine lv_iload_n hx hb dX6_isPlain_0 rfl (lv_at hl 0 rfl) ?_
  refine lv_if_lt (tgt := 14) hx hb dX6_isPlain_1 (by decide) (fun c_1 => ?_) (fun c_1 => ?_)
  · have h := it_t c_1 h
    refine lv_iconst (v := (0 : Int32)) hx hb dX6_isPlain_14 (by decide) ?_
    cases h
    rw [hQ]
    exact W.zret (ty := .boolean) hx hb hr rfl (fun t ht hW => ⟨⟨_, (), rfl, rfl, by rw [ht]; exact hP, va_K.moved hW.alike hK, hD⟩, hS.F ht⟩) hS.2.2 dX6_isPlain_15
  · have h := it_f c_1 h
    refine lv_iload_n hx hb dX6_isPlain_4 rfl (lv_at hl 0 rfl) ?_
    refine lv_bipush (v := (32 : Int32)) hx hb dX6_isPlain_5 (by decide) ?_
    refine lv_icmp_gt (tgt := 14) hx hb dX6_isPlain_7 (by decide) (fun c_2 => ?_) (fun c_2 => ?_)
    · have h := it_t c_2 h
      refine lv_iconst (v := (0 : Int32)) hx hb dX6_isPlain_14 (by decide) ?_
      cases h
      rw [hQ]
      exact W.zret (ty := .boolean) hx hb hr rfl (fun t ht hW => ⟨⟨_, (), rfl, rfl, by rw [ht]; exact hP, va_K.moved hW.alike hK, hD⟩, hS.F ht⟩) hS.2.2 dX6_isPlain_15
    · have h := it_f c_2 h
      refine lv_iconst (v := (1 : Int32)) hx hb dX6_isPlain_10 (by decide) ?_
      refine lv_goto (tgt := 15) hx hb dX6_isPlain_11 (by decide) ?_
      cases h
      rw [hQ]
      exact W.zret (ty := .boolean) hx hb hr rfl (fun t ht hW => ⟨⟨_, (), rfl, rfl, by rw [ht]; exact hP, va_K.moved hW.alike hK, hD⟩, hS.F ht⟩) hS.2.2 dX6_isPlain_15
abbrev rmX6_isStep : Room := { frames := 0, cells := 0, slots := 0, locals := 0 }
set_option maxHeartbeats 4000000 in
set_option maxRecDepth 100000 in
theorem ctX6_isStep (l : Launch) (dC : Nat → ClassId) (dI : Nat → Nat → Nat) (cI cC cJ : ClassId) (sz : Nat)  (p0 : Int32) (rr : Int32)  (h : fnX6_isStep  p0 = some rr) : Met l yX6_isStep wsX6_isStep rmX6_isStep (va_Pc [.int p0] (fun U => U.heap.size = sz ∧ va_P (dC, dI) vwCl [] U.heap ∧ va_K (dC, dI) vwCl [(cI, .int), (cC, .char), (cJ, .long)] U ∧ va_D (fun _ => True) [])) (va_Qi (fun r (_ : Unit) => r = rr) (fun _ t => va_P (dC, dI) vwCl [] t.heap ∧ va_K (dC, dI) vwCl [(cI, .int), (cC, .char), (cJ, .long)] t ∧ va_D (va_A [] sz) []) (va_A [] sz)) 0 0 (va_A [] sz) := by
  refine Met.ofW (cc := cX6_isStep) (maxL := 1) (ret := (some .boolean)) (by decide) rfl ?_
  intro p e s m args below meth c s₁ B hml hv
  obtain ⟨hargs, hsz, hP, hK, hD0⟩ := hv
  have hx := B.exec
  have hb := B.bytes
  have hr := B.returns
  have hts := atoms_spec (ws := wsX6_isStep) B.pre
  have hown : s.vm.findClass RX6 = some m.cls := findClass_of_methodNamed B.named
  have hlocks := B.notSynchronized
  subst hsz
  have hD := hD0.self (sz := s.heap.size)
  generalize hAe : va_A [] s.heap.size = A at hD ⊢
  have hA : ∀ q : Nat, s.heap.size ≤ q → A q := fun q h => by rw [← hAe]; exact Or.inr h
  have hS : va_S A s.heap s.heap [] := va_S.rf
  have hl := lv_entry ([.int p0]) (n := 1) (Nat.le_of_ble_eq_true rfl)
  have hfr : entryFrame m args 1 = entryFrame m ([.int p0] : List Value).toArray 1 := by rw [hargs]
  rw [hfr, lg_entry_eq]
  generalize (lg_sl ([.int p0]) ++ List.replicate (1 - (lg_sl ([.int p0])).length) Slot.unset).toArray = ls at hl ⊢
  have hl : lv_has ls 1 [(0, .int p0)] := hl
  refine nameQ_ (fun Q hQ => ?_)
  unfold fnX6_isStep at h
  refine lv_iload_n hx hb dX6_isStep_0 rfl (lv_at hl 0 rfl) ?_
  refine lv_bipush (v := (34 : Int32)) hx hb dX6_isStep_1 (by decide) ?_
  refine lv_icmp_eq (tgt := 22) hx hb dX6_isStep_3 (by decide) (fun c_1 => ?_) (fun c_1 => ?_)
  · have h := it_t c_1 h
    refine lv_iconst (v := (0 : Int32)) hx hb dX6_isStep_22 (by decide) ?_
    cases h
    rw [hQ]
    exact W.zret (ty := .boolean) hx hb hr rfl (fun t ht hW => ⟨⟨_, (), rfl, rfl, by rw [ht]; exact hP, va_K.moved hW.alike hK, hD⟩, hS.F ht⟩) hS.2.2 dX6_isStep_23
  · have h := it_f c_1 h
    refine lv_iload_n hx hb dX6_isStep_6 rfl (lv_at hl 0 rfl) ?_
    refine lv_bipush (v := (35 : Int32)) hx hb dX6_isStep_7 (by decide) ?_
    refine lv_icmp_eq (tgt := 22) hx hb dX6_isStep_9 (by decide) (fun c_2 => ?_) (fun c_2 => ?_)
    · have h := it_t c_2 h
      refine lv_iconst (v := (0 : Int32)) hx hb dX6_isStep_22 (by decide) ?_
      cases h
      rw [hQ]
      exact W.zret (ty := .boolean) hx hb hr rfl (fun t ht hW => ⟨⟨_, (), rfl, rfl, by rw [ht]; exact hP, va_K.moved hW.alike hK, hD⟩, hS.F ht⟩) hS.2.2 dX6_isStep_23
    · have h := it_f c_2 h
      refine lv_iload_n hx hb dX6_isStep_12 rfl (lv_at hl 0 rfl) ?_
      refine lv_bipush (v := (36 : Int32)) hx hb dX6_isStep_13 (by decide) ?_
      refine lv_icmp_eq (tgt := 22) hx hb dX6_isStep_15 (by decide) (fun c_3 => ?_) (fun c_3 => ?_)
      · have h := it_t c_3 h
        refine lv_iconst (v := (0 : Int32)) hx hb dX6_isStep_22 (by decide) ?_
        cases h
        rw [hQ]
        exact W.zret (ty := .boolean) hx hb hr rfl (fun t ht hW => ⟨⟨_, (), rfl, rfl, by rw [ht]; exact hP, va_K.moved hW.alike hK, hD⟩, hS.F ht⟩) hS.2.2 dX6_isStep_23
      · have h := it_f c_3 h
        refine lv_iconst (v := (1 : Int32)) hx hb dX6_isStep_18 (by decide) ?_
        refine lv_goto (tgt := 23) hx hb dX6_isStep_19 (by decide) ?_
        cases h
        rw [hQ]
        exact W.zret (ty := .boolean) hx hb hr rfl (fun t ht hW => ⟨⟨_, (), rfl, rfl, by rw [ht]; exact hP, va_K.moved hW.alike hK, hD⟩, hS.F ht⟩) hS.2.2 dX6_isStep_23
abbrev rmX7_fromTop : Room := { frames := 0, cells := 0, slots := 0, locals := 0 }
set_option maxHeartbeats 4000000 in
set_option maxRecDepth 100000 in
theorem ctX7_fromTop (l : Launch) (dC : Nat → ClassId) (dI : Nat → Nat → Nat) (cI cC cJ : ClassId) (aStack aStack_values : Nat) (sz : Nat) (Stack_values : Nat → Int32) (Stack_size : Int32) (p0 : Int32) (rr : Int32)  (h : fnX7_fromTop Stack_values Stack_size p0 = some rr) : Met l yX7_fromTop wsX7_fromTop rmX7_fromTop (va_Pc [.ref aStack, .int p0] (fun U => U.heap.size = sz ∧ va_P (dC, dI) vwCl [(aStack, .inr (6, [.ref aStack_values, .int Stack_size])), (aStack_values, .inl (cI, 32, .inl Stack_values))] U.heap ∧ va_K (dC, dI) vwCl [(cI, .int), (cC, .char), (cJ, .long)] U ∧ va_D (fun _ => True) [(aStack, .inr (6, [.ref aStack_values, .int Stack_size])), (aStack_values, .inl (cI, 32, .inl Stack_values))])) (va_Qi (fun r (_ : Unit) => r = rr) (fun _ t => va_P (dC, dI) vwCl [(aStack, .inr (6, [.ref aStack_values, .int Stack_size])), (aStack_values, .inl (cI, 32, .inl Stack_values))] t.heap ∧ va_K (dC, dI) vwCl [(cI, .int), (cC, .char), (cJ, .long)] t ∧ va_D (va_A [(aStack, .inr (6, [.ref aStack_values, .int Stack_size])), (aStack_values, .inl (cI, 32, .inl Stack_values))] sz) [(aStack, .inr (6, [.ref aStack_values, .int Stack_size])), (aStack_values, .inl (cI, 32, .inl Stack_values))]) (va_A [(aStack, .inr (6, [.ref aStack_values, .int Stack_size])), (aStack_values, .inl (cI, 32, .inl Stack_values))] sz)) 0 0 (va_A [(aStack, .inr (6, [.ref aStack_values, .int Stack_size])), (aStack_values, .inl (cI, 32, .inl Stack_values))] sz) := by
  refine Met.ofW (cc := cX7_fromTop) (maxL := 2) (ret := (some .int)) (by decide) rfl ?_
  intro p e s m args below meth c s₁ B hml hv
  obtain ⟨hargs, hsz, hP, hK, hD0⟩ := hv
  have hx := B.exec
  have hb := B.bytes
  have hr := B.returns
  have hts := atoms_spec (ws := wsX7_fromTop) B.pre
  have hown : s.vm.findClass RX7 = some m.cls := findClass_of_methodNamed B.named
  have hlocks := B.notSynchronized
  subst hsz
  have hD := hD0.self (sz := s.heap.size)
  generalize hAe : va_A [(aStack, .inr (6, [.ref aStack_values, .int Stack_size])), (aStack_values, .inl (cI, 32, .inl Stack_values))] s.heap.size = A at hD ⊢
  have hA : ∀ q : Nat, s.heap.size ≤ q → A q := fun q h => by rw [← hAe]; exact Or.inr h
  have hS : va_S A s.heap s.heap [] := va_S.rf
  have hl := lv_entry ([.ref aStack, .int p0]) (n := 2) (Nat.le_of_ble_eq_true rfl)
  have hfr : entryFrame m args 2 = entryFrame m ([.ref aStack, .int p0] : List Value).toArray 2 := by rw [hargs]
  rw [hfr, lg_entry_eq]
  generalize (lg_sl ([.ref aStack, .int p0]) ++ List.replicate (2 - (lg_sl ([.ref aStack, .int p0])).length) Slot.unset).toArray = ls at hl ⊢
  have hl : lv_has ls 2 [(0, .ref aStack), (1, .int p0)] := hl
  refine nameQ_ (fun Q hQ => ?_)
  unfold fnX7_fromTop at h
  refine lv_iload_n hx hb dX7_fromTop_0 rfl (lv_at hl 1 rfl) ?_
  refine lv_if_lt (tgt := 40) hx hb dX7_fromTop_1 (by decide) (fun c_1 => ?_) (fun c_1 => ?_)
  · have h := it_t c_1 h
    refine lv_iconst (v := (0 : Int32)) hx hb dX7_fromTop_40 (by decide) ?_
    cases h
    rw [hQ]
    exact W.iret hx hb hr (fun t ht hW => ⟨⟨_, (), rfl, rfl, by rw [ht]; exact hP, va_K.moved hW.alike hK, hD⟩, hS.F ht⟩) hS.2.2 dX7_fromTop_41
  · have h := it_f c_1 h
    refine lv_iload_n hx hb dX7_fromTop_4 rfl (lv_at hl 1 rfl) ?_
    refine lv_aload_n hx hb dX7_fromTop_5 rfl (lv_at hl 0 rfl) ?_
    refine va_get (D := (dC, dI)) (ci := 6) (v := .int Stack_size) (C := RX7) (T := TX7) (N := 2) hx hb hts (fun w h => List.mem_cons_of_mem _ (inX7 w h)) hown hK hP 0 rfl rfl 1 (by decide) (hts _ (List.mem_cons_of_mem _ mw_147)) (fun _ h9 => h9) rfl dX7_fromTop_6 ?_
    refine lv_icmp_ge (tgt := 40) hx hb dX7_fromTop_9 (by decide) (fun c_2 => ?_) (fun c_2 => ?_)
    · have h := it_t c_2 h
      refine lv_iconst (v := (0 : Int32)) hx hb dX7_fromTop_40 (by decide) ?_
      cases h
      rw [hQ]
      exact W.iret hx hb hr (fun t ht hW => ⟨⟨_, (), rfl, rfl, by rw [ht]; exact hP, va_K.moved hW.alike hK, hD⟩, hS.F ht⟩) hS.2.2 dX7_fromTop_41
    · have h := it_f c_2 h
      refine lv_aload_n hx hb dX7_fromTop_12 rfl (lv_at hl 0 rfl) ?_
      refine va_get (D := (dC, dI)) (ci := 6) (v := .int Stack_size) (C := RX7) (T := TX7) (N := 2) hx hb hts (fun w h => List.mem_cons_of_mem _ (inX7 w h)) hown hK hP 0 rfl rfl 1 (by decide) (hts _ (List.mem_cons_of_mem _ mw_147)) (fun _ h9 => h9) rfl dX7_fromTop_13 ?_
      refine lv_aload_n hx hb dX7_fromTop_16 rfl (lv_at hl 0 rfl) ?_
      refine va_get (D := (dC, dI)) (ci := 6) (v := .ref aStack_values) (C := RX7) (T := TX7) (N := 2) hx hb hts (fun w h => List.mem_cons_of_mem _ (inX7 w h)) hown hK hP 0 rfl rfl 0 (by decide) (hts _ (List.mem_cons_of_mem _ mw_148)) (fun _ h9 => h9) rfl dX7_fromTop_17 ?_
      refine va_alen hx hb hK hP 1 0 rfl rfl (v := (32 : Int32)) rfl dX7_fromTop_20 ?_
      refine lv_icmp_gt (tgt := 40) hx hb dX7_fromTop_21 (by decide) (fun c_3 => ?_) (fun c_3 => ?_)
      · have h := it_t c_3 h
        refine lv_iconst (v := (0 : Int32)) hx hb dX7_fromTop_40 (by decide) ?_
        cases h
        rw [hQ]
        exact W.iret hx hb hr (fun t ht hW => ⟨⟨_, (), rfl, rfl, by rw [ht]; exact hP, va_K.moved hW.alike hK, hD⟩, hS.F ht⟩) hS.2.2 dX7_fromTop_41
      · have h := it_f c_3 h
        refine lv_aload_n hx hb dX7_fromTop_24 rfl (lv_at hl 0 rfl) ?_
        refine va_get (D := (dC, dI)) (ci := 6) (v := .ref aStack_values) (C := RX7) (T := TX7) (N := 2) hx hb hts (fun w h => List.mem_cons_of_mem _ (inX7 w h)) hown hK hP 0 rfl rfl 0 (by decide) (hts _ (List.mem_cons_of_mem _ mw_148)) (fun _ h9 => h9) rfl dX7_fromTop_25 ?_
        refine lv_aload_n hx hb dX7_fromTop_28 rfl (lv_at hl 0 rfl) ?_
        refine va_get (D := (dC, dI)) (ci := 6) (v := .int Stack_size) (C := RX7) (T := TX7) (N := 2) hx hb hts (fun w h => List.mem_cons_of_mem _ (inX7 w h)) hown hK hP 0 rfl rfl 1 (by decide) (hts _ (List.mem_cons_of_mem _ mw_147)) (fun _ h9 => h9) rfl dX7_fromTop_29 ?_
        refine lv_iconst (v := (1 : Int32)) hx hb dX7_fromTop_32 (by decide) ?_
        refine lv_isub hx hb dX7_fromTop_33 ?_
        refine lv_iload_n hx hb dX7_fromTop_34 rfl (lv_at hl 1 rfl) ?_
        refine lv_isub hx hb dX7_fromTop_35 ?_
        obtain ⟨x_4, hi_5, h⟩ := bd1_some h
        obtain ⟨hi_5, ex_6⟩ := ga_some hi_5
        refine va_iald hx hb hK hP 1 0 rfl rfl hi_5 dX7_fromTop_36 ?_
        rw [← ex_6]
        refine lv_goto (tgt := 41) hx hb dX7_fromTop_37 (by decide) ?_
        cases h
        rw [hQ]
        exact W.iret hx hb hr (fun t ht hW => ⟨⟨_, (), rfl, rfl, by rw [ht]; exact hP, va_K.moved hW.alike hK, hD⟩, hS.F ht⟩) hS.2.2 dX7_fromTop_41
abbrev rmX7_size : Room := { frames := 0, cells := 0, slots := 0, locals := 0 }
set_option maxHeartbeats 4000000 in
set_option maxRecDepth 100000 in
theorem ctX7_size (l : Launch) (dC : Nat → ClassId) (dI : Nat → Nat → Nat) (cI cC cJ : ClassId) (aStack aStack_values : Nat) (sz : Nat) (Stack_size : Int32)  (rr : Int32)  (h : fnX7_size Stack_size  = some rr) : Met l yX7_size wsX7_size rmX7_size (va_Pc [.ref aStack] (fun U => U.heap.size = sz ∧ va_P (dC, dI) vwCl [(aStack, .inr (6, [.ref aStack_values, .int Stack_size]))] U.heap ∧ va_K (dC, dI) vwCl [(cI, .int), (cC, .char), (cJ, .long)] U ∧ va_D (fun _ => True) [(aStack, .inr (6, [.ref aStack_values, .int Stack_size]))])) (va_Qi (fun r (_ : Unit) => r = rr) (fun _ t => va_P (dC, dI) vwCl [(aStack, .inr (6, [.ref aStack_values, .int Stack_size]))] t.heap ∧ va_K (dC, dI) vwCl [(cI, .int), (cC, .char), (cJ, .long)] t ∧ va_D (va_A [(aStack, .inr (6, [.ref aStack_values, .int Stack_size]))] sz) [(aStack, .inr (6, [.ref aStack_values, .int Stack_size]))]) (va_A [(aStack, .inr (6, [.ref aStack_values, .int Stack_size]))] sz)) 0 0 (va_A [(aStack, .inr (6, [.ref aStack_values, .int Stack_size]))] sz) := by
  refine Met.ofW (cc := cX7_size) (maxL := 1) (ret := (some .int)) (by decide) rfl ?_
  intro p e s m args below meth c s₁ B hml hv
  obtain ⟨hargs, hsz, hP, hK, hD0⟩ := hv
  have hx := B.exec
  have hb := B.bytes
  have hr := B.returns
  have hts := atoms_spec (ws := wsX7_size) B.pre
  have hown : s.vm.findClass RX7 = some m.cls := findClass_of_methodNamed B.named
  have hlocks := B.notSynchronized
  subst hsz
  have hD := hD0.self (sz := s.heap.size)
  generalize hAe : va_A [(aStack, .inr (6, [.ref aStack_values, .int Stack_size]))] s.heap.size = A at hD ⊢
  have hA : ∀ q : Nat, s.heap.size ≤ q → A q := fun q h => by rw [← hAe]; exact Or.inr h
  have hS : va_S A s.heap s.heap [] := va_S.rf
  have hl := lv_entry ([.ref aStack]) (n := 1) (Nat.le_of_ble_eq_true rfl)
  have hfr : entryFrame m args 1 = entryFrame m ([.ref aStack] : List Value).toArray 1 := by rw [hargs]
  rw [hfr, lg_entry_eq]
  generalize (lg_sl ([.ref aStack]) ++ List.replicate (1 - (lg_sl ([.ref aStack])).length) Slot.unset).toArray = ls at hl ⊢
  have hl : lv_has ls 1 [(0, .ref aStack)] := hl
  refine nameQ_ (fun Q hQ => ?_)
  unfold fnX7_size at h
  refine lv_aload_n hx hb dX7_size_0 rfl (lv_at hl 0 rfl) ?_
  refine va_get (D := (dC, dI)) (ci := 6) (v := .int Stack_size) (C := RX7) (T := TX7) (N := 2) hx hb hts (fun w h => List.mem_cons_of_mem _ (inX7 w h)) hown hK hP 0 rfl rfl 1 (by decide) (hts _ (List.mem_cons_of_mem _ mw_147)) (fun _ h9 => h9) rfl dX7_size_1 ?_
  cases h
  rw [hQ]
  exact W.iret hx hb hr (fun t ht hW => ⟨⟨_, (), rfl, rfl, by rw [ht]; exact hP, va_K.moved hW.alike hK, hD⟩, hS.F ht⟩) hS.2.2 dX7_size_4
abbrev rmX6_takes : Room := { frames := 0, cells := 0, slots := 0, locals := 0 }
set_option maxHeartbeats 4000000 in
set_option maxRecDepth 100000 in
theorem ctX6_takes (l : Launch) (dC : Nat → ClassId) (dI : Nat → Nat → Nat) (cI cC cJ : ClassId) (tT : Nat) (sz : Nat)  (p0 : Int32) (rr : Int32)  (h : fnX6_takes  p0 = some rr) : Met l yX6_takes wsX6_takes rmX6_takes (va_Pc [.int p0] (fun U => U.heap.size = sz ∧ va_P (dC, dI) vwCl [] U.heap ∧ va_K (dC, dI) vwCl [(cI, .int), (cC, .char), (cJ, .long)] U ∧ va_D (fun _ => True) [] ∧ va_Z "WordForge$Op" "TAKES" "[I" (.ref tT) (va_A [] sz) U U.heap ∧ va_T .int tT 53 (fun j => .int (tk_T j)) (va_A [] sz) U U.heap)) (va_Qi (fun r (_ : Unit) => r = rr) (fun _ t => va_P (dC, dI) vwCl [] t.heap ∧ va_K (dC, dI) vwCl [(cI, .int), (cC, .char), (cJ, .long)] t ∧ va_D (va_A [] sz) []) (va_A [] sz)) 0 0 (va_A [] sz) := by
  refine Met.ofW (cc := cX6_takes) (maxL := 1) (ret := (some .int)) (by decide) rfl ?_
  intro p e s m args below meth c s₁ B hml hv
  obtain ⟨hargs, hsz, hP, hK, hD0, hZ_tT, hT_tT⟩ := hv
  have hx := B.exec
  have hb := B.bytes
  have hr := B.returns
  have hts := atoms_spec (ws := wsX6_takes) B.pre
  have hown : s.vm.findClass RX6 = some m.cls := findClass_of_methodNamed B.named
  have hlocks := B.notSynchronized
  subst hsz
  have hD := hD0.self (sz := s.heap.size)
  generalize hAe : va_A [] s.heap.size = A at hD hZ_tT hT_tT ⊢
  have hA : ∀ q : Nat, s.heap.size ≤ q → A q := fun q h => by rw [← hAe]; exact Or.inr h
  have hS : va_S A s.heap s.heap [] := va_S.rf
  have hl := lv_entry ([.int p0]) (n := 1) (Nat.le_of_ble_eq_true rfl)
  have hfr : entryFrame m args 1 = entryFrame m ([.int p0] : List Value).toArray 1 := by rw [hargs]
  rw [hfr, lg_entry_eq]
  generalize (lg_sl ([.int p0]) ++ List.replicate (1 - (lg_sl ([.int p0])).length) Slot.unset).toArray = ls at hl ⊢
  have hl : lv_has ls 1 [(0, .int p0)] := hl
  refine nameQ_ (fun Q hQ => ?_)
  unfold fnX6_takes at h
  refine lv_iload_n hx hb dX6_takes_0 rfl (lv_at hl 0 rfl) ?_
  refine lv_if_lt (tgt := 20) hx hb dX6_takes_1 (by decide) (fun c_1 => ?_) (fun c_1 => ?_)
  · have h := it_t c_1 h
    refine lv_iconst (v := (0 : Int32)) hx hb dX6_takes_20 (by decide) ?_
    cases h
    rw [hQ]
    exact W.iret hx hb hr (fun t ht hW => ⟨⟨_, (), rfl, rfl, by rw [ht]; exact hP, va_K.moved hW.alike hK, hD⟩, hS.F ht⟩) hS.2.2 dX6_takes_21
  · have h := it_f c_1 h
    refine lv_iload_n hx hb dX6_takes_4 rfl (lv_at hl 0 rfl) ?_
    refine va_gets hx hb hZ_tT hS hown (hts _ (List.mem_cons_of_mem _ mw_149)) (fun _ h9 => h9) dX6_takes_5 ?_
    refine va_tlen hx hb hT_tT hS (v := (53 : Int32)) rfl dX6_takes_8 ?_
    refine lv_icmp_ge (tgt := 20) hx hb dX6_takes_9 (by decide) (fun c_2 => ?_) (fun c_2 => ?_)
    · have h := it_t c_2 h
      refine lv_iconst (v := (0 : Int32)) hx hb dX6_takes_20 (by decide) ?_
      cases h
      rw [hQ]
      exact W.iret hx hb hr (fun t ht hW => ⟨⟨_, (), rfl, rfl, by rw [ht]; exact hP, va_K.moved hW.alike hK, hD⟩, hS.F ht⟩) hS.2.2 dX6_takes_21
    · have h := it_f c_2 h
      refine va_gets hx hb hZ_tT hS hown (hts _ (List.mem_cons_of_mem _ mw_149)) (fun _ h9 => h9) dX6_takes_12 ?_
      refine lv_iload_n hx hb dX6_takes_15 rfl (lv_at hl 0 rfl) ?_
      obtain ⟨x_3, hi_4, h⟩ := bd1_some h
      obtain ⟨hi_4, ex_5⟩ := ga_some hi_4
      refine va_ti hx hb hT_tT hS hi_4 (v := .int (tk_T (p0).toNatClampNeg)) rfl dX6_takes_16 ?_
      rw [← ex_5]
      refine lv_goto (tgt := 21) hx hb dX6_takes_17 (by decide) ?_
      cases h
      rw [hQ]
      exact W.iret hx hb hr (fun t ht hW => ⟨⟨_, (), rfl, rfl, by rw [ht]; exact hP, va_K.moved hW.alike hK, hD⟩, hS.F ht⟩) hS.2.2 dX6_takes_21
abbrev rmX4_openCount : Room := { frames := 0, cells := 0, slots := 0, locals := 0 }
set_option maxHeartbeats 4000000 in
set_option maxRecDepth 100000 in
theorem ctX4_openCount (l : Launch) (dC : Nat → ClassId) (dI : Nat → Nat → Nat) (cI cC cJ : ClassId) (aLoops aLoops_counts aLoops_limits : Nat) (sz : Nat) (Loops_open : Int32)  (rr : Int32)  (h : fnX4_openCount Loops_open  = some rr) : Met l yX4_openCount wsX4_openCount rmX4_openCount (va_Pc [.ref aLoops] (fun U => U.heap.size = sz ∧ va_P (dC, dI) vwCl [(aLoops, .inr (4, [.ref aLoops_counts, .ref aLoops_limits, .int Loops_open]))] U.heap ∧ va_K (dC, dI) vwCl [(cI, .int), (cC, .char), (cJ, .long)] U ∧ va_D (fun _ => True) [(aLoops, .inr (4, [.ref aLoops_counts, .ref aLoops_limits, .int Loops_open]))])) (va_Qi (fun r (_ : Unit) => r = rr) (fun _ t => va_P (dC, dI) vwCl [(aLoops, .inr (4, [.ref aLoops_counts, .ref aLoops_limits, .int Loops_open]))] t.heap ∧ va_K (dC, dI) vwCl [(cI, .int), (cC, .char), (cJ, .long)] t ∧ va_D (va_A [(aLoops, .inr (4, [.ref aLoops_counts, .ref aLoops_limits, .int Loops_open]))] sz) [(aLoops, .inr (4, [.ref aLoops_counts, .ref aLoops_limits, .int Loops_open]))]) (va_A [(aLoops, .inr (4, [.ref aLoops_counts, .ref aLoops_limits, .int Loops_open]))] sz)) 0 0 (va_A [(aLoops, .inr (4, [.ref aLoops_counts, .ref aLoops_limits, .int Loops_open]))] sz) := by
  refine Met.ofW (cc := cX4_openCount) (maxL := 1) (ret := (some .int)) (by decide) rfl ?_
  intro p e s m args below meth c s₁ B hml hv
  obtain ⟨hargs, hsz, hP, hK, hD0⟩ := hv
  have hx := B.exec
  have hb := B.bytes
  have hr := B.returns
  have hts := atoms_spec (ws := wsX4_openCount) B.pre
  have hown : s.vm.findClass RX4 = some m.cls := findClass_of_methodNamed B.named
  have hlocks := B.notSynchronized
  subst hsz
  have hD := hD0.self (sz := s.heap.size)
  generalize hAe : va_A [(aLoops, .inr (4, [.ref aLoops_counts, .ref aLoops_limits, .int Loops_open]))] s.heap.size = A at hD ⊢
  have hA : ∀ q : Nat, s.heap.size ≤ q → A q := fun q h => by rw [← hAe]; exact Or.inr h
  have hS : va_S A s.heap s.heap [] := va_S.rf
  have hl := lv_entry ([.ref aLoops]) (n := 1) (Nat.le_of_ble_eq_true rfl)
  have hfr : entryFrame m args 1 = entryFrame m ([.ref aLoops] : List Value).toArray 1 := by rw [hargs]
  rw [hfr, lg_entry_eq]
  generalize (lg_sl ([.ref aLoops]) ++ List.replicate (1 - (lg_sl ([.ref aLoops])).length) Slot.unset).toArray = ls at hl ⊢
  have hl : lv_has ls 1 [(0, .ref aLoops)] := hl
  refine nameQ_ (fun Q hQ => ?_)
  unfold fnX4_openCount at h
  refine lv_aload_n hx hb dX4_openCount_0 rfl (lv_at hl 0 rfl) ?_
  refine va_get (D := (dC, dI)) (ci := 4) (v := .int Loops_open) (C := RX4) (T := TX4) (N := 3) hx hb hts (fun w h => List.mem_cons_of_mem _ (inX4 w h)) hown hK hP 0 rfl rfl 2 (by decide) (hts _ (List.mem_cons_of_mem _ mw_56)) (fun _ h9 => h9) rfl dX4_openCount_1 ?_
  cases h
  rw [hQ]
  exact W.iret hx hb hr (fun t ht hW => ⟨⟨_, (), rfl, rfl, by rw [ht]; exact hP, va_K.moved hW.alike hK, hD⟩, hS.F ht⟩) hS.2.2 dX4_openCount_4
abbrev rmX6_gives : Room := { frames := 0, cells := 0, slots := 0, locals := 0 }
set_option maxHeartbeats 4000000 in
set_option maxRecDepth 100000 in
theorem ctX6_gives (l : Launch) (dC : Nat → ClassId) (dI : Nat → Nat → Nat) (cI cC cJ : ClassId) (tG : Nat) (sz : Nat)  (p0 : Int32) (rr : Int32)  (h : fnX6_gives  p0 = some rr) : Met l yX6_gives wsX6_gives rmX6_gives (va_Pc [.int p0] (fun U => U.heap.size = sz ∧ va_P (dC, dI) vwCl [] U.heap ∧ va_K (dC, dI) vwCl [(cI, .int), (cC, .char), (cJ, .long)] U ∧ va_D (fun _ => True) [] ∧ va_Z "WordForge$Op" "GIVES" "[I" (.ref tG) (va_A [] sz) U U.heap ∧ va_T .int tG 53 (fun j => .int (tk_G j)) (va_A [] sz) U U.heap)) (va_Qi (fun r (_ : Unit) => r = rr) (fun _ t => va_P (dC, dI) vwCl [] t.heap ∧ va_K (dC, dI) vwCl [(cI, .int), (cC, .char), (cJ, .long)] t ∧ va_D (va_A [] sz) []) (va_A [] sz)) 0 0 (va_A [] sz) := by
  refine Met.ofW (cc := cX6_gives) (maxL := 1) (ret := (some .int)) (by decide) rfl ?_
  intro p e s m args below meth c s₁ B hml hv
  obtain ⟨hargs, hsz, hP, hK, hD0, hZ_tG, hT_tG⟩ := hv
  have hx := B.exec
  have hb := B.bytes
  have hr := B.returns
  have hts := atoms_spec (ws := wsX6_gives) B.pre
  have hown : s.vm.findClass RX6 = some m.cls := findClass_of_methodNamed B.named
  have hlocks := B.notSynchronized
  subst hsz
  have hD := hD0.self (sz := s.heap.size)
  generalize hAe : va_A [] s.heap.size = A at hD hZ_tG hT_tG ⊢
  have hA : ∀ q : Nat, s.heap.size ≤ q → A q := fun q h => by rw [← hAe]; exact Or.inr h
  have hS : va_S A s.heap s.heap [] := va_S.rf
  have hl := lv_entry ([.int p0]) (n := 1) (Nat.le_of_ble_eq_true rfl)
  have hfr : entryFrame m args 1 = entryFrame m ([.int p0] : List Value).toArray 1 := by rw [hargs]
  rw [hfr, lg_entry_eq]
  generalize (lg_sl ([.int p0]) ++ List.replicate (1 - (lg_sl ([.int p0])).length) Slot.unset).toArray = ls at hl ⊢
  have hl : lv_has ls 1 [(0, .int p0)] := hl
  refine nameQ_ (fun Q hQ => ?_)
  unfold fnX6_gives at h
  refine lv_iload_n hx hb dX6_gives_0 rfl (lv_at hl 0 rfl) ?_
  refine lv_if_lt (tgt := 20) hx hb dX6_gives_1 (by decide) (fun c_1 => ?_) (fun c_1 => ?_)
  · have h := it_t c_1 h
    refine lv_iconst (v := (0 : Int32)) hx hb dX6_gives_20 (by decide) ?_
    cases h
    rw [hQ]
    exact W.iret hx hb hr (fun t ht hW => ⟨⟨_, (), rfl, rfl, by rw [ht]; exact hP, va_K.moved hW.alike hK, hD⟩, hS.F ht⟩) hS.2.2 dX6_gives_21
  · have h := it_f c_1 h
    refine lv_iload_n hx hb dX6_gives_4 rfl (lv_at hl 0 rfl) ?_
    refine va_gets hx hb hZ_tG hS hown (hts _ (List.mem_cons_of_mem _ mw_150)) (fun _ h9 => h9) dX6_gives_5 ?_
    refine va_tlen hx hb hT_tG hS (v := (53 : Int32)) rfl dX6_gives_8 ?_
    refine lv_icmp_ge (tgt := 20) hx hb dX6_gives_9 (by decide) (fun c_2 => ?_) (fun c_2 => ?_)
    · have h := it_t c_2 h
      refine lv_iconst (v := (0 : Int32)) hx hb dX6_gives_20 (by decide) ?_
      cases h
      rw [hQ]
      exact W.iret hx hb hr (fun t ht hW => ⟨⟨_, (), rfl, rfl, by rw [ht]; exact hP, va_K.moved hW.alike hK, hD⟩, hS.F ht⟩) hS.2.2 dX6_gives_21
    · have h := it_f c_2 h
      refine va_gets hx hb hZ_tG hS hown (hts _ (List.mem_cons_of_mem _ mw_150)) (fun _ h9 => h9) dX6_gives_12 ?_
      refine lv_iload_n hx hb dX6_gives_15 rfl (lv_at hl 0 rfl) ?_
      obtain ⟨x_3, hi_4, h⟩ := bd1_some h
      obtain ⟨hi_4, ex_5⟩ := ga_some hi_4
      refine va_ti hx hb hT_tG hS hi_4 (v := .int (tk_G (p0).toNatClampNeg)) rfl dX6_gives_16 ?_
      rw [← ex_5]
      refine lv_goto (tgt := 21) hx hb dX6_gives_17 (by decide) ?_
      cases h
      rw [hQ]
      exact W.iret hx hb hr (fun t ht hW => ⟨⟨_, (), rfl, rfl, by rw [ht]; exact hP, va_K.moved hW.alike hK, hD⟩, hS.F ht⟩) hS.2.2 dX6_gives_21
abbrev rmX6_isStackWord : Room := { frames := 0, cells := 0, slots := 0, locals := 0 }
set_option maxHeartbeats 4000000 in
set_option maxRecDepth 100000 in
theorem ctX6_isStackWord (l : Launch) (dC : Nat → ClassId) (dI : Nat → Nat → Nat) (cI cC cJ : ClassId) (sz : Nat)  (p0 : Int32) (rr : Int32)  (h : fnX6_isStackWord  p0 = some rr) : Met l yX6_isStackWord wsX6_isStackWord rmX6_isStackWord (va_Pc [.int p0] (fun U => U.heap.size = sz ∧ va_P (dC, dI) vwCl [] U.heap ∧ va_K (dC, dI) vwCl [(cI, .int), (cC, .char), (cJ, .long)] U ∧ va_D (fun _ => True) [])) (va_Qi (fun r (_ : Unit) => r = rr) (fun _ t => va_P (dC, dI) vwCl [] t.heap ∧ va_K (dC, dI) vwCl [(cI, .int), (cC, .char), (cJ, .long)] t ∧ va_D (va_A [] sz) []) (va_A [] sz)) 0 0 (va_A [] sz) := by
  refine Met.ofW (cc := cX6_isStackWord) (maxL := 1) (ret := (some .boolean)) (by decide) rfl ?_
  intro p e s m args below meth c s₁ B hml hv
  obtain ⟨hargs, hsz, hP, hK, hD0⟩ := hv
  have hx := B.exec
  have hb := B.bytes
  have hr := B.returns
  have hts := atoms_spec (ws := wsX6_isStackWord) B.pre
  have hown : s.vm.findClass RX6 = some m.cls := findClass_of_methodNamed B.named
  have hlocks := B.notSynchronized
  subst hsz
  have hD := hD0.self (sz := s.heap.size)
  generalize hAe : va_A [] s.heap.size = A at hD ⊢
  have hA : ∀ q : Nat, s.heap.size ≤ q → A q := fun q h => by rw [← hAe]; exact Or.inr h
  have hS : va_S A s.heap s.heap [] := va_S.rf
  have hl := lv_entry ([.int p0]) (n := 1) (Nat.le_of_ble_eq_true rfl)
  have hfr : entryFrame m args 1 = entryFrame m ([.int p0] : List Value).toArray 1 := by rw [hargs]
  rw [hfr, lg_entry_eq]
  generalize (lg_sl ([.int p0]) ++ List.replicate (1 - (lg_sl ([.int p0])).length) Slot.unset).toArray = ls at hl ⊢
  have hl : lv_has ls 1 [(0, .int p0)] := hl
  refine nameQ_ (fun Q hQ => ?_)
  unfold fnX6_isStackWord at h
  refine lv_iload_n hx hb dX6_isStackWord_0 rfl (lv_at hl 0 rfl) ?_
  refine lv_if_lt (tgt := 14) hx hb dX6_isStackWord_1 (by decide) (fun c_1 => ?_) (fun c_1 => ?_)
  · have h := it_t c_1 h
    refine lv_iconst (v := (0 : Int32)) hx hb dX6_isStackWord_14 (by decide) ?_
    cases h
    rw [hQ]
    exact W.zret (ty := .boolean) hx hb hr rfl (fun t ht hW => ⟨⟨_, (), rfl, rfl, by rw [ht]; exact hP, va_K.moved hW.alike hK, hD⟩, hS.F ht⟩) hS.2.2 dX6_isStackWord_15
  · have h := it_f c_1 h
    refine lv_iload_n hx hb dX6_isStackWord_4 rfl (lv_at hl 0 rfl) ?_
    refine lv_bipush (v := (8 : Int32)) hx hb dX6_isStackWord_5 (by decide) ?_
    refine lv_icmp_gt (tgt := 14) hx hb dX6_isStackWord_7 (by decide) (fun c_2 => ?_) (fun c_2 => ?_)
    · have h := it_t c_2 h
      refine lv_iconst (v := (0 : Int32)) hx hb dX6_isStackWord_14 (by decide) ?_
      cases h
      rw [hQ]
      exact W.zret (ty := .boolean) hx hb hr rfl (fun t ht hW => ⟨⟨_, (), rfl, rfl, by rw [ht]; exact hP, va_K.moved hW.alike hK, hD⟩, hS.F ht⟩) hS.2.2 dX6_isStackWord_15
    · have h := it_f c_2 h
      refine lv_iconst (v := (1 : Int32)) hx hb dX6_isStackWord_10 (by decide) ?_
      refine lv_goto (tgt := 15) hx hb dX6_isStackWord_11 (by decide) ?_
      cases h
      rw [hQ]
      exact W.zret (ty := .boolean) hx hb hr rfl (fun t ht hW => ⟨⟨_, (), rfl, rfl, by rw [ht]; exact hP, va_K.moved hW.alike hK, hD⟩, hS.F ht⟩) hS.2.2 dX6_isStackWord_15
abbrev rmX7_put : Room := { frames := 0, cells := 0, slots := 0, locals := 0 }
set_option maxHeartbeats 4000000 in
set_option maxRecDepth 100000 in
theorem ctX7_put (l : Launch) (dC : Nat → ClassId) (dI : Nat → Nat → Nat) (cI cC cJ : ClassId) (aStack aStack_values : Nat) (sz : Nat) (Stack_values : Nat → Int32) (Stack_size : Int32) (p0 : Int32) (rr : Int32) (w_Stack_values : Nat → Int32) (w_Stack_size : Int32) (h : fnX7_put Stack_values Stack_size p0 = some (rr, w_Stack_values, w_Stack_size)) : Met l yX7_put wsX7_put rmX7_put (va_Pc [.ref aStack, .int p0] (fun U => U.heap.size = sz ∧ va_P (dC, dI) vwCl [(aStack, .inr (6, [.ref aStack_values, .int Stack_size])), (aStack_values, .inl (cI, 32, .inl Stack_values))] U.heap ∧ va_K (dC, dI) vwCl [(cI, .int), (cC, .char), (cJ, .long)] U ∧ va_D (fun _ => True) [(aStack, .inr (6, [.ref aStack_values, .int Stack_size])), (aStack_values, .inl (cI, 32, .inl Stack_values))])) (va_Qi (fun r (_ : Unit) => r = rr) (fun _ t => va_P (dC, dI) vwCl [(aStack, .inr (6, [.ref aStack_values, .int w_Stack_size])), (aStack_values, .inl (cI, 32, .inl w_Stack_values))] t.heap ∧ va_K (dC, dI) vwCl [(cI, .int), (cC, .char), (cJ, .long)] t ∧ va_D (va_A [(aStack, .inr (6, [.ref aStack_values, .int Stack_size])), (aStack_values, .inl (cI, 32, .inl Stack_values))] sz) [(aStack, .inr (6, [.ref aStack_values, .int w_Stack_size])), (aStack_values, .inl (cI, 32, .inl w_Stack_values))]) (va_A [(aStack, .inr (6, [.ref aStack_values, .int Stack_size])), (aStack_values, .inl (cI, 32, .inl Stack_values))] sz)) 0 0 (va_A [(aStack, .inr (6, [.ref aStack_values, .int Stack_size])), (aStack_values, .inl (cI, 32, .inl Stack_values))] sz) := by
  refine Met.ofW (cc := cX7_put) (maxL := 2) (ret := (some .boolean)) (by decide) rfl ?_
  intro p e s m args below meth c s₁ B hml hv
  obtain ⟨hargs, hsz, hP, hK, hD0⟩ := hv
  have hx := B.exec
  have hb := B.bytes
  have hr := B.returns
  have hts := atoms_spec (ws := wsX7_put) B.pre
  have hown : s.vm.findClass RX7 = some m.cls := findClass_of_methodNamed B.named
  have hlocks := B.notSynchronized
  subst hsz
  have hD := hD0.self (sz := s.heap.size)
  generalize hAe : va_A [(aStack, .inr (6, [.ref aStack_values, .int Stack_size])), (aStack_values, .inl (cI, 32, .inl Stack_values))] s.heap.size = A at hD ⊢
  have hA : ∀ q : Nat, s.heap.size ≤ q → A q := fun q h => by rw [← hAe]; exact Or.inr h
  have hS : va_S A s.heap s.heap [] := va_S.rf
  have hl := lv_entry ([.ref aStack, .int p0]) (n := 2) (Nat.le_of_ble_eq_true rfl)
  have hfr : entryFrame m args 2 = entryFrame m ([.ref aStack, .int p0] : List Value).toArray 2 := by rw [hargs]
  rw [hfr, lg_entry_eq]
  generalize (lg_sl ([.ref aStack, .int p0]) ++ List.replicate (2 - (lg_sl ([.ref aStack, .int p0])).length) Slot.unset).toArray = ls at hl ⊢
  have hl : lv_has ls 2 [(0, .ref aStack), (1, .int p0)] := hl
  refine nameQ_ (fun Q hQ => ?_)
  unfold fnX7_put at h
  refine lv_aload_n hx hb dX7_put_0 rfl (lv_at hl 0 rfl) ?_
  refine va_get (D := (dC, dI)) (ci := 6) (v := .int Stack_size) (C := RX7) (T := TX7) (N := 2) hx hb hts (fun w h => List.mem_cons_of_mem _ (inX7 w h)) hown hK hP 0 rfl rfl 1 (by decide) (hts _ (List.mem_cons_of_mem _ mw_147)) (fun _ h9 => h9) rfl dX7_put_1 ?_
  refine lv_if_lt (tgt := 19) hx hb dX7_put_4 (by decide) (fun c_1 => ?_) (fun c_1 => ?_)
  · have h := it_t c_1 h
    refine lv_iconst (v := (0 : Int32)) hx hb dX7_put_19 (by decide) ?_
    cases h
    rw [hQ]
    exact W.zret (ty := .boolean) hx hb hr rfl (fun t ht hW => ⟨⟨_, (), rfl, rfl, by rw [ht]; exact hP, va_K.moved hW.alike hK, hD⟩, hS.F ht⟩) hS.2.2 dX7_put_20
  · have h := it_f c_1 h
    refine lv_aload_n hx hb dX7_put_7 rfl (lv_at hl 0 rfl) ?_
    refine va_get (D := (dC, dI)) (ci := 6) (v := .int Stack_size) (C := RX7) (T := TX7) (N := 2) hx hb hts (fun w h => List.mem_cons_of_mem _ (inX7 w h)) hown hK hP 0 rfl rfl 1 (by decide) (hts _ (List.mem_cons_of_mem _ mw_147)) (fun _ h9 => h9) rfl dX7_put_8 ?_
    refine lv_aload_n hx hb dX7_put_11 rfl (lv_at hl 0 rfl) ?_
    refine va_get (D := (dC, dI)) (ci := 6) (v := .ref aStack_values) (C := RX7) (T := TX7) (N := 2) hx hb hts (fun w h => List.mem_cons_of_mem _ (inX7 w h)) hown hK hP 0 rfl rfl 0 (by decide) (hts _ (List.mem_cons_of_mem _ mw_148)) (fun _ h9 => h9) rfl dX7_put_12 ?_
    refine va_alen hx hb hK hP 1 0 rfl rfl (v := (32 : Int32)) rfl dX7_put_15 ?_
    refine lv_icmp_lt (tgt := 21) hx hb dX7_put_16 (by decide) (fun c_2 => ?_) (fun c_2 => ?_)
    · have h := it_t c_2 h
      refine lv_aload_n hx hb dX7_put_21 rfl (lv_at hl 0 rfl) ?_
      refine va_get (D := (dC, dI)) (ci := 6) (v := .ref aStack_values) (C := RX7) (T := TX7) (N := 2) hx hb hts (fun w h => List.mem_cons_of_mem _ (inX7 w h)) hown hK hP 0 rfl rfl 0 (by decide) (hts _ (List.mem_cons_of_mem _ mw_148)) (fun _ h9 => h9) rfl dX7_put_22 ?_
      refine lv_aload_n hx hb dX7_put_25 rfl (lv_at hl 0 rfl) ?_
      refine va_get (D := (dC, dI)) (ci := 6) (v := .int Stack_size) (C := RX7) (T := TX7) (N := 2) hx hb hts (fun w h => List.mem_cons_of_mem _ (inX7 w h)) hown hK hP 0 rfl rfl 1 (by decide) (hts _ (List.mem_cons_of_mem _ mw_147)) (fun _ h9 => h9) rfl dX7_put_26 ?_
      refine lv_iload_n hx hb dX7_put_29 rfl (lv_at hl 1 rfl) ?_
      obtain ⟨f_3, hi_4, h⟩ := bd1_some h
      obtain ⟨hi_4, ex_5⟩ := sa_some hi_4
      refine va_iast hx hb hK hP hD hS 1 0 rfl rfl hi_4 dX7_put_30 (fun H locs hP hD hS => ?_)
      rw [← ex_5] at hP hD
      have hP : va_P (dC, dI) vwCl [(aStack, .inr (6, [.ref aStack_values, .int Stack_size])), (aStack_values, .inl (cI, 32, .inl f_3))] H := hP
      have hD : va_D A [(aStack, .inr (6, [.ref aStack_values, .int Stack_size])), (aStack_values, .inl (cI, 32, .inl f_3))] := hD
      refine lv_aload_n hx hb dX7_put_31 rfl (lv_at hl 0 rfl) ?_
      refine lv_dup hx hb dX7_put_32 rfl ?_
      refine va_get (D := (dC, dI)) (ci := 6) (v := .int Stack_size) (C := RX7) (T := TX7) (N := 2) hx hb hts (fun w h => List.mem_cons_of_mem _ (inX7 w h)) hown hK hP 0 rfl rfl 1 (by decide) (hts _ (List.mem_cons_of_mem _ mw_147)) (fun _ h9 => h9) rfl dX7_put_33 ?_
      refine lv_iconst (v := (1 : Int32)) hx hb dX7_put_36 (by decide) ?_
      refine lv_iadd hx hb dX7_put_37 ?_
      refine va_put (D := (dC, dI)) (ci := 6) (v := .int (Stack_size + (1 : Int32))) (ty := .int) (C := RX7) (T := TX7) (N := 2) hx hb hts (fun w h => List.mem_cons_of_mem _ (inX7 w h)) tyX7 tyX7_ok nmX7 hown hK hP hD hS 0 rfl rfl 1 (by decide) (hts _ (List.mem_cons_of_mem _ mw_147)) (fun _ h9 => h9) rfl (by decide +kernel) rfl rfl (Nat.le_of_ble_eq_true rfl) dX7_put_38 (fun H locs hP hD hS => ?_)
      have hP : va_P (dC, dI) vwCl [(aStack, .inr (6, [.ref aStack_values, .int (Stack_size + (1 : Int32))])), (aStack_values, .inl (cI, 32, .inl f_3))] H := hP
      have hD : va_D A [(aStack, .inr (6, [.ref aStack_values, .int (Stack_size + (1 : Int32))])), (aStack_values, .inl (cI, 32, .inl f_3))] := hD
      refine lv_iconst (v := (1 : Int32)) hx hb dX7_put_41 (by decide) ?_
      cases h
      rw [hQ]
      exact W.zret (ty := .boolean) hx hb hr rfl (fun t ht hW => ⟨⟨_, (), rfl, rfl, by rw [ht]; exact hP, va_K.moved hW.alike hK, hD⟩, hS.F ht⟩) hS.2.2 dX7_put_42
    · have h := it_f c_2 h
      refine lv_iconst (v := (0 : Int32)) hx hb dX7_put_19 (by decide) ?_
      cases h
      rw [hQ]
      exact W.zret (ty := .boolean) hx hb hr rfl (fun t ht hW => ⟨⟨_, (), rfl, rfl, by rw [ht]; exact hP, va_K.moved hW.alike hK, hD⟩, hS.F ht⟩) hS.2.2 dX7_put_20
abbrev rmX7_drop : Room := { frames := 0, cells := 0, slots := 0, locals := 0 }
set_option maxHeartbeats 4000000 in
set_option maxRecDepth 100000 in
theorem ctX7_drop (l : Launch) (dC : Nat → ClassId) (dI : Nat → Nat → Nat) (cI cC cJ : ClassId) (aStack aStack_values : Nat) (sz : Nat) (Stack_size : Int32) (p0 : Int32) (w_Stack_size : Int32) (h : fnX7_drop Stack_size p0 = some w_Stack_size) : Met l yX7_drop wsX7_drop rmX7_drop (va_Pc [.ref aStack, .int p0] (fun U => U.heap.size = sz ∧ va_P (dC, dI) vwCl [(aStack, .inr (6, [.ref aStack_values, .int Stack_size]))] U.heap ∧ va_K (dC, dI) vwCl [(cI, .int), (cC, .char), (cJ, .long)] U ∧ va_D (fun _ => True) [(aStack, .inr (6, [.ref aStack_values, .int Stack_size]))])) (va_Qv (fun (_ : Unit) => True) (fun _ t => va_P (dC, dI) vwCl [(aStack, .inr (6, [.ref aStack_values, .int w_Stack_size]))] t.heap ∧ va_K (dC, dI) vwCl [(cI, .int), (cC, .char), (cJ, .long)] t ∧ va_D (va_A [(aStack, .inr (6, [.ref aStack_values, .int Stack_size]))] sz) [(aStack, .inr (6, [.ref aStack_values, .int w_Stack_size]))]) (va_A [(aStack, .inr (6, [.ref aStack_values, .int Stack_size]))] sz)) 0 0 (va_A [(aStack, .inr (6, [.ref aStack_values, .int Stack_size]))] sz) := by
  refine Met.ofW (cc := cX7_drop) (maxL := 2) (ret := none) (by decide) rfl ?_
  intro p e s m args below meth c s₁ B hml hv
  obtain ⟨hargs, hsz, hP, hK, hD0⟩ := hv
  have hx := B.exec
  have hb := B.bytes
  have hr := B.returns
  have hts := atoms_spec (ws := wsX7_drop) B.pre
  have hown : s.vm.findClass RX7 = some m.cls := findClass_of_methodNamed B.named
  have hlocks := B.notSynchronized
  subst hsz
  have hD := hD0.self (sz := s.heap.size)
  generalize hAe : va_A [(aStack, .inr (6, [.ref aStack_values, .int Stack_size]))] s.heap.size = A at hD ⊢
  have hA : ∀ q : Nat, s.heap.size ≤ q → A q := fun q h => by rw [← hAe]; exact Or.inr h
  have hS : va_S A s.heap s.heap [] := va_S.rf
  have hl := lv_entry ([.ref aStack, .int p0]) (n := 2) (Nat.le_of_ble_eq_true rfl)
  have hfr : entryFrame m args 2 = entryFrame m ([.ref aStack, .int p0] : List Value).toArray 2 := by rw [hargs]
  rw [hfr, lg_entry_eq]
  generalize (lg_sl ([.ref aStack, .int p0]) ++ List.replicate (2 - (lg_sl ([.ref aStack, .int p0])).length) Slot.unset).toArray = ls at hl ⊢
  have hl : lv_has ls 2 [(0, .ref aStack), (1, .int p0)] := hl
  refine nameQ_ (fun Q hQ => ?_)
  unfold fnX7_drop at h
  refine lv_iload_n hx hb dX7_drop_0 rfl (lv_at hl 1 rfl) ?_
  refine lv_if_lt (tgt := 22) hx hb dX7_drop_1 (by decide) (fun c_1 => ?_) (fun c_1 => ?_)
  · have h := it_t c_1 h
    cases h
    rw [hQ]
    exact W.vret hx hb hr (fun t ht hW => ⟨⟨(), rfl, trivial, by rw [ht]; exact hP, va_K.moved hW.alike hK, hD⟩, hS.F ht⟩) hS.2.2 dX7_drop_22
  · have h := it_f c_1 h
    refine lv_iload_n hx hb dX7_drop_4 rfl (lv_at hl 1 rfl) ?_
    refine lv_aload_n hx hb dX7_drop_5 rfl (lv_at hl 0 rfl) ?_
    refine va_get (D := (dC, dI)) (ci := 6) (v := .int Stack_size) (C := RX7) (T := TX7) (N := 2) hx hb hts (fun w h => List.mem_cons_of_mem _ (inX7 w h)) hown hK hP 0 rfl rfl 1 (by decide) (hts _ (List.mem_cons_of_mem _ mw_147)) (fun _ h9 => h9) rfl dX7_drop_6 ?_
    refine lv_icmp_gt (tgt := 22) hx hb dX7_drop_9 (by decide) (fun c_2 => ?_) (fun c_2 => ?_)
    · have h := it_t c_2 h
      cases h
      rw [hQ]
      exact W.vret hx hb hr (fun t ht hW => ⟨⟨(), rfl, trivial, by rw [ht]; exact hP, va_K.moved hW.alike hK, hD⟩, hS.F ht⟩) hS.2.2 dX7_drop_22
    · have h := it_f c_2 h
      refine lv_aload_n hx hb dX7_drop_12 rfl (lv_at hl 0 rfl) ?_
      refine lv_dup hx hb dX7_drop_13 rfl ?_
      refine va_get (D := (dC, dI)) (ci := 6) (v := .int Stack_size) (C := RX7) (T := TX7) (N := 2) hx hb hts (fun w h => List.mem_cons_of_mem _ (inX7 w h)) hown hK hP 0 rfl rfl 1 (by decide) (hts _ (List.mem_cons_of_mem _ mw_147)) (fun _ h9 => h9) rfl dX7_drop_14 ?_
      refine lv_iload_n hx hb dX7_drop_17 rfl (lv_at hl 1 rfl) ?_
      refine lv_isub hx hb dX7_drop_18 ?_
      refine va_put (D := (dC, dI)) (ci := 6) (v := .int (Stack_size - p0)) (ty := .int) (C := RX7) (T := TX7) (N := 2) hx hb hts (fun w h => List.mem_cons_of_mem _ (inX7 w h)) tyX7 tyX7_ok nmX7 hown hK hP hD hS 0 rfl rfl 1 (by decide) (hts _ (List.mem_cons_of_mem _ mw_147)) (fun _ h9 => h9) rfl (by decide +kernel) rfl rfl (Nat.le_of_ble_eq_true rfl) dX7_drop_19 (fun H locs hP hD hS => ?_)
      have hP : va_P (dC, dI) vwCl [(aStack, .inr (6, [.ref aStack_values, .int (Stack_size - p0)]))] H := hP
      have hD : va_D A [(aStack, .inr (6, [.ref aStack_values, .int (Stack_size - p0)]))] := hD
      cases h
      rw [hQ]
      exact W.vret hx hb hr (fun t ht hW => ⟨⟨(), rfl, trivial, by rw [ht]; exact hP, va_K.moved hW.alike hK, hD⟩, hS.F ht⟩) hS.2.2 dX7_drop_22
abbrev rmX6_isPairWord : Room := { frames := 0, cells := 0, slots := 0, locals := 0 }
set_option maxHeartbeats 4000000 in
set_option maxRecDepth 100000 in
theorem ctX6_isPairWord (l : Launch) (dC : Nat → ClassId) (dI : Nat → Nat → Nat) (cI cC cJ : ClassId) (sz : Nat)  (p0 : Int32) (rr : Int32)  (h : fnX6_isPairWord  p0 = some rr) : Met l yX6_isPairWord wsX6_isPairWord rmX6_isPairWord (va_Pc [.int p0] (fun U => U.heap.size = sz ∧ va_P (dC, dI) vwCl [] U.heap ∧ va_K (dC, dI) vwCl [(cI, .int), (cC, .char), (cJ, .long)] U ∧ va_D (fun _ => True) [])) (va_Qi (fun r (_ : Unit) => r = rr) (fun _ t => va_P (dC, dI) vwCl [] t.heap ∧ va_K (dC, dI) vwCl [(cI, .int), (cC, .char), (cJ, .long)] t ∧ va_D (va_A [] sz) []) (va_A [] sz)) 0 0 (va_A [] sz) := by
  refine Met.ofW (cc := cX6_isPairWord) (maxL := 1) (ret := (some .boolean)) (by decide) rfl ?_
  intro p e s m args below meth c s₁ B hml hv
  obtain ⟨hargs, hsz, hP, hK, hD0⟩ := hv
  have hx := B.exec
  have hb := B.bytes
  have hr := B.returns
  have hts := atoms_spec (ws := wsX6_isPairWord) B.pre
  have hown : s.vm.findClass RX6 = some m.cls := findClass_of_methodNamed B.named
  have hlocks := B.notSynchronized
  subst hsz
  have hD := hD0.self (sz := s.heap.size)
  generalize hAe : va_A [] s.heap.size = A at hD ⊢
  have hA : ∀ q : Nat, s.heap.size ≤ q → A q := fun q h => by rw [← hAe]; exact Or.inr h
  have hS : va_S A s.heap s.heap [] := va_S.rf
  have hl := lv_entry ([.int p0]) (n := 1) (Nat.le_of_ble_eq_true rfl)
  have hfr : entryFrame m args 1 = entryFrame m ([.int p0] : List Value).toArray 1 := by rw [hargs]
  rw [hfr, lg_entry_eq]
  generalize (lg_sl ([.int p0]) ++ List.replicate (1 - (lg_sl ([.int p0])).length) Slot.unset).toArray = ls at hl ⊢
  have hl : lv_has ls 1 [(0, .int p0)] := hl
  refine nameQ_ (fun Q hQ => ?_)
  unfold fnX6_isPairWord at h
  refine lv_iload_n hx hb dX6_isPairWord_0 rfl (lv_at hl 0 rfl) ?_
  refine lv_bipush (v := (9 : Int32)) hx hb dX6_isPairWord_1 (by decide) ?_
  refine lv_icmp_lt (tgt := 16) hx hb dX6_isPairWord_3 (by decide) (fun c_1 => ?_) (fun c_1 => ?_)
  · have h := it_t c_1 h
    refine lv_iconst (v := (0 : Int32)) hx hb dX6_isPairWord_16 (by decide) ?_
    cases h
    rw [hQ]
    exact W.zret (ty := .boolean) hx hb hr rfl (fun t ht hW => ⟨⟨_, (), rfl, rfl, by rw [ht]; exact hP, va_K.moved hW.alike hK, hD⟩, hS.F ht⟩) hS.2.2 dX6_isPairWord_17
  · have h := it_f c_1 h
    refine lv_iload_n hx hb dX6_isPairWord_6 rfl (lv_at hl 0 rfl) ?_
    refine lv_bipush (v := (23 : Int32)) hx hb dX6_isPairWord_7 (by decide) ?_
    refine lv_icmp_gt (tgt := 16) hx hb dX6_isPairWord_9 (by decide) (fun c_2 => ?_) (fun c_2 => ?_)
    · have h := it_t c_2 h
      refine lv_iconst (v := (0 : Int32)) hx hb dX6_isPairWord_16 (by decide) ?_
      cases h
      rw [hQ]
      exact W.zret (ty := .boolean) hx hb hr rfl (fun t ht hW => ⟨⟨_, (), rfl, rfl, by rw [ht]; exact hP, va_K.moved hW.alike hK, hD⟩, hS.F ht⟩) hS.2.2 dX6_isPairWord_17
    · have h := it_f c_2 h
      refine lv_iconst (v := (1 : Int32)) hx hb dX6_isPairWord_12 (by decide) ?_
      refine lv_goto (tgt := 17) hx hb dX6_isPairWord_13 (by decide) ?_
      cases h
      rw [hQ]
      exact W.zret (ty := .boolean) hx hb hr rfl (fun t ht hW => ⟨⟨_, (), rfl, rfl, by rw [ht]; exact hP, va_K.moved hW.alike hK, hD⟩, hS.F ht⟩) hS.2.2 dX6_isPairWord_17
abbrev rmX7_take : Room := { frames := 0, cells := 0, slots := 0, locals := 0 }
set_option maxHeartbeats 4000000 in
set_option maxRecDepth 100000 in
theorem ctX7_take (l : Launch) (dC : Nat → ClassId) (dI : Nat → Nat → Nat) (cI cC cJ : ClassId) (aStack aStack_values : Nat) (sz : Nat) (Stack_values : Nat → Int32) (Stack_size : Int32)  (rr : Int32) (w_Stack_size : Int32) (h : fnX7_take Stack_values Stack_size  = some (rr, w_Stack_size)) : Met l yX7_take wsX7_take rmX7_take (va_Pc [.ref aStack] (fun U => U.heap.size = sz ∧ va_P (dC, dI) vwCl [(aStack, .inr (6, [.ref aStack_values, .int Stack_size])), (aStack_values, .inl (cI, 32, .inl Stack_values))] U.heap ∧ va_K (dC, dI) vwCl [(cI, .int), (cC, .char), (cJ, .long)] U ∧ va_D (fun _ => True) [(aStack, .inr (6, [.ref aStack_values, .int Stack_size])), (aStack_values, .inl (cI, 32, .inl Stack_values))])) (va_Qi (fun r (_ : Unit) => r = rr) (fun _ t => va_P (dC, dI) vwCl [(aStack, .inr (6, [.ref aStack_values, .int w_Stack_size])), (aStack_values, .inl (cI, 32, .inl Stack_values))] t.heap ∧ va_K (dC, dI) vwCl [(cI, .int), (cC, .char), (cJ, .long)] t ∧ va_D (va_A [(aStack, .inr (6, [.ref aStack_values, .int Stack_size])), (aStack_values, .inl (cI, 32, .inl Stack_values))] sz) [(aStack, .inr (6, [.ref aStack_values, .int w_Stack_size])), (aStack_values, .inl (cI, 32, .inl Stack_values))]) (va_A [(aStack, .inr (6, [.ref aStack_values, .int Stack_size])), (aStack_values, .inl (cI, 32, .inl Stack_values))] sz)) 0 0 (va_A [(aStack, .inr (6, [.ref aStack_values, .int Stack_size])), (aStack_values, .inl (cI, 32, .inl Stack_values))] sz) := by
  refine Met.ofW (cc := cX7_take) (maxL := 1) (ret := (some .int)) (by decide) rfl ?_
  intro p e s m args below meth c s₁ B hml hv
  obtain ⟨hargs, hsz, hP, hK, hD0⟩ := hv
  have hx := B.exec
  have hb := B.bytes
  have hr := B.returns
  have hts := atoms_spec (ws := wsX7_take) B.pre
  have hown : s.vm.findClass RX7 = some m.cls := findClass_of_methodNamed B.named
  have hlocks := B.notSynchronized
  subst hsz
  have hD := hD0.self (sz := s.heap.size)
  generalize hAe : va_A [(aStack, .inr (6, [.ref aStack_values, .int Stack_size])), (aStack_values, .inl (cI, 32, .inl Stack_values))] s.heap.size = A at hD ⊢
  have hA : ∀ q : Nat, s.heap.size ≤ q → A q := fun q h => by rw [← hAe]; exact Or.inr h
  have hS : va_S A s.heap s.heap [] := va_S.rf
  have hl := lv_entry ([.ref aStack]) (n := 1) (Nat.le_of_ble_eq_true rfl)
  have hfr : entryFrame m args 1 = entryFrame m ([.ref aStack] : List Value).toArray 1 := by rw [hargs]
  rw [hfr, lg_entry_eq]
  generalize (lg_sl ([.ref aStack]) ++ List.replicate (1 - (lg_sl ([.ref aStack])).length) Slot.unset).toArray = ls at hl ⊢
  have hl : lv_has ls 1 [(0, .ref aStack)] := hl
  refine nameQ_ (fun Q hQ => ?_)
  unfold fnX7_take at h
  refine lv_aload_n hx hb dX7_take_0 rfl (lv_at hl 0 rfl) ?_
  refine va_get (D := (dC, dI)) (ci := 6) (v := .int Stack_size) (C := RX7) (T := TX7) (N := 2) hx hb hts (fun w h => List.mem_cons_of_mem _ (inX7 w h)) hown hK hP 0 rfl rfl 1 (by decide) (hts _ (List.mem_cons_of_mem _ mw_147)) (fun _ h9 => h9) rfl dX7_take_1 ?_
  refine lv_if_le (tgt := 19) hx hb dX7_take_4 (by decide) (fun c_1 => ?_) (fun c_1 => ?_)
  · have h := it_t c_1 h
    refine lv_iconst (v := (0 : Int32)) hx hb dX7_take_19 (by decide) ?_
    cases h
    rw [hQ]
    exact W.iret hx hb hr (fun t ht hW => ⟨⟨_, (), rfl, rfl, by rw [ht]; exact hP, va_K.moved hW.alike hK, hD⟩, hS.F ht⟩) hS.2.2 dX7_take_20
  · have h := it_f c_1 h
    refine lv_aload_n hx hb dX7_take_7 rfl (lv_at hl 0 rfl) ?_
    refine va_get (D := (dC, dI)) (ci := 6) (v := .int Stack_size) (C := RX7) (T := TX7) (N := 2) hx hb hts (fun w h => List.mem_cons_of_mem _ (inX7 w h)) hown hK hP 0 rfl rfl 1 (by decide) (hts _ (List.mem_cons_of_mem _ mw_147)) (fun _ h9 => h9) rfl dX7_take_8 ?_
    refine lv_aload_n hx hb dX7_take_11 rfl (lv_at hl 0 rfl) ?_
    refine va_get (D := (dC, dI)) (ci := 6) (v := .ref aStack_values) (C := RX7) (T := TX7) (N := 2) hx hb hts (fun w h => List.mem_cons_of_mem _ (inX7 w h)) hown hK hP 0 rfl rfl 0 (by decide) (hts _ (List.mem_cons_of_mem _ mw_148)) (fun _ h9 => h9) rfl dX7_take_12 ?_
    refine va_alen hx hb hK hP 1 0 rfl rfl (v := (32 : Int32)) rfl dX7_take_15 ?_
    refine lv_icmp_le (tgt := 21) hx hb dX7_take_16 (by decide) (fun c_2 => ?_) (fun c_2 => ?_)
    · have h := it_t c_2 h
      refine lv_aload_n hx hb dX7_take_21 rfl (lv_at hl 0 rfl) ?_
      refine lv_dup hx hb dX7_take_22 rfl ?_
      refine va_get (D := (dC, dI)) (ci := 6) (v := .int Stack_size) (C := RX7) (T := TX7) (N := 2) hx hb hts (fun w h => List.mem_cons_of_mem _ (inX7 w h)) hown hK hP 0 rfl rfl 1 (by decide) (hts _ (List.mem_cons_of_mem _ mw_147)) (fun _ h9 => h9) rfl dX7_take_23 ?_
      refine lv_iconst (v := (1 : Int32)) hx hb dX7_take_26 (by decide) ?_
      refine lv_isub hx hb dX7_take_27 ?_
      refine va_put (D := (dC, dI)) (ci := 6) (v := .int (Stack_size - (1 : Int32))) (ty := .int) (C := RX7) (T := TX7) (N := 2) hx hb hts (fun w h => List.mem_cons_of_mem _ (inX7 w h)) tyX7 tyX7_ok nmX7 hown hK hP hD hS 0 rfl rfl 1 (by decide) (hts _ (List.mem_cons_of_mem _ mw_147)) (fun _ h9 => h9) rfl (by decide +kernel) rfl rfl (Nat.le_of_ble_eq_true rfl) dX7_take_28 (fun H locs hP hD hS => ?_)
      have hP : va_P (dC, dI) vwCl [(aStack, .inr (6, [.ref aStack_values, .int (Stack_size - (1 : Int32))])), (aStack_values, .inl (cI, 32, .inl Stack_values))] H := hP
      have hD : va_D A [(aStack, .inr (6, [.ref aStack_values, .int (Stack_size - (1 : Int32))])), (aStack_values, .inl (cI, 32, .inl Stack_values))] := hD
      refine lv_aload_n hx hb dX7_take_31 rfl (lv_at hl 0 rfl) ?_
      refine va_get (D := (dC, dI)) (ci := 6) (v := .ref aStack_values) (C := RX7) (T := TX7) (N := 2) hx hb hts (fun w h => List.mem_cons_of_mem _ (inX7 w h)) hown hK hP 0 rfl rfl 0 (by decide) (hts _ (List.mem_cons_of_mem _ mw_148)) (fun _ h9 => h9) rfl dX7_take_32 ?_
      refine lv_aload_n hx hb dX7_take_35 rfl (lv_at hl 0 rfl) ?_
      refine va_get (D := (dC, dI)) (ci := 6) (v := .int (Stack_size - (1 : Int32))) (C := RX7) (T := TX7) (N := 2) hx hb hts (fun w h => List.mem_cons_of_mem _ (inX7 w h)) hown hK hP 0 rfl rfl 1 (by decide) (hts _ (List.mem_cons_of_mem _ mw_147)) (fun _ h9 => h9) rfl dX7_take_36 ?_
      obtain ⟨x_3, hi_4, h⟩ := bd1_some h
      obtain ⟨hi_4, ex_5⟩ := ga_some hi_4
      refine va_iald hx hb hK hP 1 0 rfl rfl hi_4 dX7_take_39 ?_
      rw [← ex_5]
      cases h
      rw [hQ]
      exact W.iret hx hb hr (fun t ht hW => ⟨⟨_, (), rfl, rfl, by rw [ht]; exact hP, va_K.moved hW.alike hK, hD⟩, hS.F ht⟩) hS.2.2 dX7_take_40
    · have h := it_f c_2 h
      refine lv_iconst (v := (0 : Int32)) hx hb dX7_take_19 (by decide) ?_
      cases h
      rw [hQ]
      exact W.iret hx hb hr (fun t ht hW => ⟨⟨_, (), rfl, rfl, by rw [ht]; exact hP, va_K.moved hW.alike hK, hD⟩, hS.F ht⟩) hS.2.2 dX7_take_20
abbrev rmJ9_floorDiv_7cf53 : Room := { frames := 0, cells := 0, slots := 0, locals := 0 }
set_option maxHeartbeats 4000000 in
set_option maxRecDepth 100000 in
theorem ctJ9_floorDiv_7cf53 (l : Launch) (dC : Nat → ClassId) (dI : Nat → Nat → Nat) (cI cC cJ : ClassId) (sz : Nat)  (p0 : Int32) (p1 : Int32) (rr : Int32)  (h : fnJ9_floorDiv_7cf53  p0 p1 = some rr) : Met l yJ9_floorDiv_7cf53 wsJ9_floorDiv_7cf53 rmJ9_floorDiv_7cf53 (va_Pc [.int p0, .int p1] (fun U => U.heap.size = sz ∧ va_P (dC, dI) vwCl [] U.heap ∧ va_K (dC, dI) vwCl [(cI, .int), (cC, .char), (cJ, .long)] U ∧ va_D (fun _ => True) [])) (va_Qi (fun r (_ : Unit) => r = rr) (fun _ t => va_P (dC, dI) vwCl [] t.heap ∧ va_K (dC, dI) vwCl [(cI, .int), (cC, .char), (cJ, .long)] t ∧ va_D (va_A [] sz) []) (va_A [] sz)) 0 0 (va_A [] sz) := by
  refine va_MetF (cc := cJ9_floorDiv_7cf53) (maxL := 3) (ret := (some .int)) (by decide +kernel) rfl ?_
  intro p e s m args below meth c s₁ B hml hv
  obtain ⟨hargs, hsz, hP, hK, hD0⟩ := hv
  have hx := B.exec
  have hb := B.bytes
  have hr := B.returns
  have hts := atoms_spec (ws := wsJ9_floorDiv_7cf53) B.pre
  have hown : s.vm.findClass RJ9 = some m.cls := findClass_of_methodNamed B.named
  have hlocks := B.notSynchronized
  subst hsz
  have hD := hD0.self (sz := s.heap.size)
  generalize hAe : va_A [] s.heap.size = A at hD ⊢
  have hA : ∀ q : Nat, s.heap.size ≤ q → A q := fun q h => by rw [← hAe]; exact Or.inr h
  have hS : va_S A s.heap s.heap [] := va_S.rf
  have hl := lv_entry ([.int p0, .int p1]) (n := 3) (Nat.le_of_ble_eq_true rfl)
  have hfr : entryFrame m args 3 = entryFrame m ([.int p0, .int p1] : List Value).toArray 3 := by rw [hargs]
  rw [hfr, lg_entry_eq]
  generalize (lg_sl ([.int p0, .int p1]) ++ List.replicate (3 - (lg_sl ([.int p0, .int p1])).length) Slot.unset).toArray = ls at hl ⊢
  have hl : lv_has ls 3 [(0, .int p0), (1, .int p1)] := hl
  refine nameQ_ (fun Q hQ => ?_)
  unfold fnJ9_floorDiv_7cf53 at h
  refine lv_iload_n hx hb dJ9_floorDiv_7cf53_0 rfl (lv_at hl 0 rfl) ?_
  refine lv_iload_n hx hb dJ9_floorDiv_7cf53_1 rfl (lv_at hl 1 rfl) ?_
  obtain ⟨hz_1, h⟩ := nz_some h
  refine lv_idiv hx hb dJ9_floorDiv_7cf53_2 hz_1 ?_
  refine lv_istore_n (lv' := [(2, .int (p0 / p1)), (0, .int p0), (1, .int p1)]) hx hb dJ9_floorDiv_7cf53_3 rfl hl (by decide) rfl (fun ls hl => ?_)
  refine lv_iload_n hx hb dJ9_floorDiv_7cf53_4 rfl (lv_at hl 1 rfl) ?_
  refine lv_iload_n hx hb dJ9_floorDiv_7cf53_5 rfl (lv_at hl 2 rfl) ?_
  refine lv_ixor hx hb dJ9_floorDiv_7cf53_6 ?_
  refine lv_if_ge (tgt := 21) hx hb dJ9_floorDiv_7cf53_7 (by decide) (fun c_2 => ?_) (fun c_2 => ?_)
  · have h := it_t c_2 h
    refine lv_iload_n hx hb dJ9_floorDiv_7cf53_21 rfl (lv_at hl 0 rfl) ?_
    cases h
    rw [hQ]
    exact W.iret hx hb hr (fun t ht hW => ⟨⟨_, (), rfl, rfl, by rw [ht]; exact hP, va_K.moved hW.alike hK, hD⟩, hS.F ht⟩) hS.2.2 dJ9_floorDiv_7cf53_22
  · have h := it_f c_2 h
    refine lv_iload_n hx hb dJ9_floorDiv_7cf53_10 rfl (lv_at hl 0 rfl) ?_
    refine lv_iload_n hx hb dJ9_floorDiv_7cf53_11 rfl (lv_at hl 2 rfl) ?_
    refine lv_imul hx hb dJ9_floorDiv_7cf53_12 ?_
    refine lv_iload_n hx hb dJ9_floorDiv_7cf53_13 rfl (lv_at hl 1 rfl) ?_
    refine lv_icmp_eq (tgt := 21) hx hb dJ9_floorDiv_7cf53_14 (by decide) (fun c_3 => ?_) (fun c_3 => ?_)
    · have h := it_t c_3 h
      refine lv_iload_n hx hb dJ9_floorDiv_7cf53_21 rfl (lv_at hl 0 rfl) ?_
      cases h
      rw [hQ]
      exact W.iret hx hb hr (fun t ht hW => ⟨⟨_, (), rfl, rfl, by rw [ht]; exact hP, va_K.moved hW.alike hK, hD⟩, hS.F ht⟩) hS.2.2 dJ9_floorDiv_7cf53_22
    · have h := it_f c_3 h
      refine lv_iload_n hx hb dJ9_floorDiv_7cf53_17 rfl (lv_at hl 0 rfl) ?_
      refine lv_iconst (v := (1 : Int32)) hx hb dJ9_floorDiv_7cf53_18 (by decide) ?_
      refine lv_isub hx hb dJ9_floorDiv_7cf53_19 ?_
      cases h
      rw [hQ]
      exact W.iret hx hb hr (fun t ht hW => ⟨⟨_, (), rfl, rfl, by rw [ht]; exact hP, va_K.moved hW.alike hK, hD⟩, hS.F ht⟩) hS.2.2 dJ9_floorDiv_7cf53_20
abbrev rmX6_isLoneWord : Room := { frames := 0, cells := 0, slots := 0, locals := 0 }
set_option maxHeartbeats 4000000 in
set_option maxRecDepth 100000 in
theorem ctX6_isLoneWord (l : Launch) (dC : Nat → ClassId) (dI : Nat → Nat → Nat) (cI cC cJ : ClassId) (sz : Nat)  (p0 : Int32) (rr : Int32)  (h : fnX6_isLoneWord  p0 = some rr) : Met l yX6_isLoneWord wsX6_isLoneWord rmX6_isLoneWord (va_Pc [.int p0] (fun U => U.heap.size = sz ∧ va_P (dC, dI) vwCl [] U.heap ∧ va_K (dC, dI) vwCl [(cI, .int), (cC, .char), (cJ, .long)] U ∧ va_D (fun _ => True) [])) (va_Qi (fun r (_ : Unit) => r = rr) (fun _ t => va_P (dC, dI) vwCl [] t.heap ∧ va_K (dC, dI) vwCl [(cI, .int), (cC, .char), (cJ, .long)] t ∧ va_D (va_A [] sz) []) (va_A [] sz)) 0 0 (va_A [] sz) := by
  refine Met.ofW (cc := cX6_isLoneWord) (maxL := 1) (ret := (some .boolean)) (by decide) rfl ?_
  intro p e s m args below meth c s₁ B hml hv
  obtain ⟨hargs, hsz, hP, hK, hD0⟩ := hv
  have hx := B.exec
  have hb := B.bytes
  have hr := B.returns
  have hts := atoms_spec (ws := wsX6_isLoneWord) B.pre
  have hown : s.vm.findClass RX6 = some m.cls := findClass_of_methodNamed B.named
  have hlocks := B.notSynchronized
  subst hsz
  have hD := hD0.self (sz := s.heap.size)
  generalize hAe : va_A [] s.heap.size = A at hD ⊢
  have hA : ∀ q : Nat, s.heap.size ≤ q → A q := fun q h => by rw [← hAe]; exact Or.inr h
  have hS : va_S A s.heap s.heap [] := va_S.rf
  have hl := lv_entry ([.int p0]) (n := 1) (Nat.le_of_ble_eq_true rfl)
  have hfr : entryFrame m args 1 = entryFrame m ([.int p0] : List Value).toArray 1 := by rw [hargs]
  rw [hfr, lg_entry_eq]
  generalize (lg_sl ([.int p0]) ++ List.replicate (1 - (lg_sl ([.int p0])).length) Slot.unset).toArray = ls at hl ⊢
  have hl : lv_has ls 1 [(0, .int p0)] := hl
  refine nameQ_ (fun Q hQ => ?_)
  unfold fnX6_isLoneWord at h
  refine lv_iload_n hx hb dX6_isLoneWord_0 rfl (lv_at hl 0 rfl) ?_
  refine lv_bipush (v := (24 : Int32)) hx hb dX6_isLoneWord_1 (by decide) ?_
  refine lv_icmp_lt (tgt := 16) hx hb dX6_isLoneWord_3 (by decide) (fun c_1 => ?_) (fun c_1 => ?_)
  · have h := it_t c_1 h
    refine lv_iconst (v := (0 : Int32)) hx hb dX6_isLoneWord_16 (by decide) ?_
    cases h
    rw [hQ]
    exact W.zret (ty := .boolean) hx hb hr rfl (fun t ht hW => ⟨⟨_, (), rfl, rfl, by rw [ht]; exact hP, va_K.moved hW.alike hK, hD⟩, hS.F ht⟩) hS.2.2 dX6_isLoneWord_17
  · have h := it_f c_1 h
    refine lv_iload_n hx hb dX6_isLoneWord_6 rfl (lv_at hl 0 rfl) ?_
    refine lv_bipush (v := (28 : Int32)) hx hb dX6_isLoneWord_7 (by decide) ?_
    refine lv_icmp_gt (tgt := 16) hx hb dX6_isLoneWord_9 (by decide) (fun c_2 => ?_) (fun c_2 => ?_)
    · have h := it_t c_2 h
      refine lv_iconst (v := (0 : Int32)) hx hb dX6_isLoneWord_16 (by decide) ?_
      cases h
      rw [hQ]
      exact W.zret (ty := .boolean) hx hb hr rfl (fun t ht hW => ⟨⟨_, (), rfl, rfl, by rw [ht]; exact hP, va_K.moved hW.alike hK, hD⟩, hS.F ht⟩) hS.2.2 dX6_isLoneWord_17
    · have h := it_f c_2 h
      refine lv_iconst (v := (1 : Int32)) hx hb dX6_isLoneWord_12 (by decide) ?_
      refine lv_goto (tgt := 17) hx hb dX6_isLoneWord_13 (by decide) ?_
      cases h
      rw [hQ]
      exact W.zret (ty := .boolean) hx hb hr rfl (fun t ht hW => ⟨⟨_, (), rfl, rfl, by rw [ht]; exact hP, va_K.moved hW.alike hK, hD⟩, hS.F ht⟩) hS.2.2 dX6_isLoneWord_17
abbrev rmX6_isStoreWord : Room := { frames := 0, cells := 0, slots := 0, locals := 0 }
set_option maxHeartbeats 4000000 in
set_option maxRecDepth 100000 in
theorem ctX6_isStoreWord (l : Launch) (dC : Nat → ClassId) (dI : Nat → Nat → Nat) (cI cC cJ : ClassId) (sz : Nat)  (p0 : Int32) (rr : Int32)  (h : fnX6_isStoreWord  p0 = some rr) : Met l yX6_isStoreWord wsX6_isStoreWord rmX6_isStoreWord (va_Pc [.int p0] (fun U => U.heap.size = sz ∧ va_P (dC, dI) vwCl [] U.heap ∧ va_K (dC, dI) vwCl [(cI, .int), (cC, .char), (cJ, .long)] U ∧ va_D (fun _ => True) [])) (va_Qi (fun r (_ : Unit) => r = rr) (fun _ t => va_P (dC, dI) vwCl [] t.heap ∧ va_K (dC, dI) vwCl [(cI, .int), (cC, .char), (cJ, .long)] t ∧ va_D (va_A [] sz) []) (va_A [] sz)) 0 0 (va_A [] sz) := by
  refine Met.ofW (cc := cX6_isStoreWord) (maxL := 1) (ret := (some .boolean)) (by decide) rfl ?_
  intro p e s m args below meth c s₁ B hml hv
  obtain ⟨hargs, hsz, hP, hK, hD0⟩ := hv
  have hx := B.exec
  have hb := B.bytes
  have hr := B.returns
  have hts := atoms_spec (ws := wsX6_isStoreWord) B.pre
  have hown : s.vm.findClass RX6 = some m.cls := findClass_of_methodNamed B.named
  have hlocks := B.notSynchronized
  subst hsz
  have hD := hD0.self (sz := s.heap.size)
  generalize hAe : va_A [] s.heap.size = A at hD ⊢
  have hA : ∀ q : Nat, s.heap.size ≤ q → A q := fun q h => by rw [← hAe]; exact Or.inr h
  have hS : va_S A s.heap s.heap [] := va_S.rf
  have hl := lv_entry ([.int p0]) (n := 1) (Nat.le_of_ble_eq_true rfl)
  have hfr : entryFrame m args 1 = entryFrame m ([.int p0] : List Value).toArray 1 := by rw [hargs]
  rw [hfr, lg_entry_eq]
  generalize (lg_sl ([.int p0]) ++ List.replicate (1 - (lg_sl ([.int p0])).length) Slot.unset).toArray = ls at hl ⊢
  have hl : lv_has ls 1 [(0, .int p0)] := hl
  refine nameQ_ (fun Q hQ => ?_)
  unfold fnX6_isStoreWord at h
  refine lv_iload_n hx hb dX6_isStoreWord_0 rfl (lv_at hl 0 rfl) ?_
  refine lv_bipush (v := (29 : Int32)) hx hb dX6_isStoreWord_1 (by decide) ?_
  refine lv_icmp_lt (tgt := 16) hx hb dX6_isStoreWord_3 (by decide) (fun c_1 => ?_) (fun c_1 => ?_)
  · have h := it_t c_1 h
    refine lv_iconst (v := (0 : Int32)) hx hb dX6_isStoreWord_16 (by decide) ?_
    cases h
    rw [hQ]
    exact W.zret (ty := .boolean) hx hb hr rfl (fun t ht hW => ⟨⟨_, (), rfl, rfl, by rw [ht]; exact hP, va_K.moved hW.alike hK, hD⟩, hS.F ht⟩) hS.2.2 dX6_isStoreWord_17
  · have h := it_f c_1 h
    refine lv_iload_n hx hb dX6_isStoreWord_6 rfl (lv_at hl 0 rfl) ?_
    refine lv_bipush (v := (32 : Int32)) hx hb dX6_isStoreWord_7 (by decide) ?_
    refine lv_icmp_gt (tgt := 16) hx hb dX6_isStoreWord_9 (by decide) (fun c_2 => ?_) (fun c_2 => ?_)
    · have h := it_t c_2 h
      refine lv_iconst (v := (0 : Int32)) hx hb dX6_isStoreWord_16 (by decide) ?_
      cases h
      rw [hQ]
      exact W.zret (ty := .boolean) hx hb hr rfl (fun t ht hW => ⟨⟨_, (), rfl, rfl, by rw [ht]; exact hP, va_K.moved hW.alike hK, hD⟩, hS.F ht⟩) hS.2.2 dX6_isStoreWord_17
    · have h := it_f c_2 h
      refine lv_iconst (v := (1 : Int32)) hx hb dX6_isStoreWord_12 (by decide) ?_
      refine lv_goto (tgt := 17) hx hb dX6_isStoreWord_13 (by decide) ?_
      cases h
      rw [hQ]
      exact W.zret (ty := .boolean) hx hb hr rfl (fun t ht hW => ⟨⟨_, (), rfl, rfl, by rw [ht]; exact hP, va_K.moved hW.alike hK, hD⟩, hS.F ht⟩) hS.2.2 dX6_isStoreWord_17
abbrev rmX8_add : Room := { frames := 0, cells := 0, slots := 0, locals := 0 }
set_option maxHeartbeats 4000000 in
set_option maxRecDepth 100000 in
theorem ctX8_add (l : Launch) (dC : Nat → ClassId) (dI : Nat → Nat → Nat) (cI cC cJ : ClassId) (aTape aTape_latest : Nat) (sz : Nat) (Tape_latest : Nat → Int32) (Tape_count : Int32) (p0 : Int32) (w_Tape_latest : Nat → Int32) (w_Tape_count : Int32) (h : fnX8_add Tape_latest Tape_count p0 = some (w_Tape_latest, w_Tape_count)) : Met l yX8_add wsX8_add rmX8_add (va_Pc [.ref aTape, .int p0] (fun U => U.heap.size = sz ∧ va_P (dC, dI) vwCl [(aTape, .inr (7, [.ref aTape_latest, .int Tape_count])), (aTape_latest, .inl (cI, 16, .inl Tape_latest))] U.heap ∧ va_K (dC, dI) vwCl [(cI, .int), (cC, .char), (cJ, .long)] U ∧ va_D (fun _ => True) [(aTape, .inr (7, [.ref aTape_latest, .int Tape_count])), (aTape_latest, .inl (cI, 16, .inl Tape_latest))])) (va_Qv (fun (_ : Unit) => True) (fun _ t => va_P (dC, dI) vwCl [(aTape, .inr (7, [.ref aTape_latest, .int w_Tape_count])), (aTape_latest, .inl (cI, 16, .inl w_Tape_latest))] t.heap ∧ va_K (dC, dI) vwCl [(cI, .int), (cC, .char), (cJ, .long)] t ∧ va_D (va_A [(aTape, .inr (7, [.ref aTape_latest, .int Tape_count])), (aTape_latest, .inl (cI, 16, .inl Tape_latest))] sz) [(aTape, .inr (7, [.ref aTape_latest, .int w_Tape_count])), (aTape_latest, .inl (cI, 16, .inl w_Tape_latest))]) (va_A [(aTape, .inr (7, [.ref aTape_latest, .int Tape_count])), (aTape_latest, .inl (cI, 16, .inl Tape_latest))] sz)) 0 0 (va_A [(aTape, .inr (7, [.ref aTape_latest, .int Tape_count])), (aTape_latest, .inl (cI, 16, .inl Tape_latest))] sz) := by
  refine Met.ofW (cc := cX8_add) (maxL := 2) (ret := none) (by decide) rfl ?_
  intro p e s m args below meth c s₁ B hml hv
  obtain ⟨hargs, hsz, hP, hK, hD0⟩ := hv
  have hx := B.exec
  have hb := B.bytes
  have hr := B.returns
  have hts := atoms_spec (ws := wsX8_add) B.pre
  have hown : s.vm.findClass RX8 = some m.cls := findClass_of_methodNamed B.named
  have hlocks := B.notSynchronized
  subst hsz
  have hD := hD0.self (sz := s.heap.size)
  generalize hAe : va_A [(aTape, .inr (7, [.ref aTape_latest, .int Tape_count])), (aTape_latest, .inl (cI, 16, .inl Tape_latest))] s.heap.size = A at hD ⊢
  have hA : ∀ q : Nat, s.heap.size ≤ q → A q := fun q h => by rw [← hAe]; exact Or.inr h
  have hS : va_S A s.heap s.heap [] := va_S.rf
  have hl := lv_entry ([.ref aTape, .int p0]) (n := 2) (Nat.le_of_ble_eq_true rfl)
  have hfr : entryFrame m args 2 = entryFrame m ([.ref aTape, .int p0] : List Value).toArray 2 := by rw [hargs]
  rw [hfr, lg_entry_eq]
  generalize (lg_sl ([.ref aTape, .int p0]) ++ List.replicate (2 - (lg_sl ([.ref aTape, .int p0])).length) Slot.unset).toArray = ls at hl ⊢
  have hl : lv_has ls 2 [(0, .ref aTape), (1, .int p0)] := hl
  refine nameQ_ (fun Q hQ => ?_)
  unfold fnX8_add at h
  refine lv_aload_n hx hb dX8_add_0 rfl (lv_at hl 0 rfl) ?_
  refine va_get (D := (dC, dI)) (ci := 7) (v := .ref aTape_latest) (C := RX8) (T := TX8) (N := 2) hx hb hts (fun w h => List.mem_cons_of_mem _ (inX8 w h)) hown hK hP 0 rfl rfl 0 (by decide) (hts _ (List.mem_cons_of_mem _ mw_199)) (fun _ h9 => h9) rfl dX8_add_1 ?_
  refine lv_aload_n hx hb dX8_add_4 rfl (lv_at hl 0 rfl) ?_
  refine va_get (D := (dC, dI)) (ci := 7) (v := .int Tape_count) (C := RX8) (T := TX8) (N := 2) hx hb hts (fun w h => List.mem_cons_of_mem _ (inX8 w h)) hown hK hP 0 rfl rfl 1 (by decide) (hts _ (List.mem_cons_of_mem _ mw_200)) (fun _ h9 => h9) rfl dX8_add_5 ?_
  refine lv_bipush (v := (15 : Int32)) hx hb dX8_add_8 (by decide) ?_
  refine lv_iand hx hb dX8_add_10 ?_
  refine lv_iload_n hx hb dX8_add_11 rfl (lv_at hl 1 rfl) ?_
  obtain ⟨f_1, hi_2, h⟩ := bd1_some h
  obtain ⟨hi_2, ex_3⟩ := sa_some hi_2
  refine va_iast hx hb hK hP hD hS 1 0 rfl rfl hi_2 dX8_add_12 (fun H locs hP hD hS => ?_)
  rw [← ex_3] at hP hD
  have hP : va_P (dC, dI) vwCl [(aTape, .inr (7, [.ref aTape_latest, .int Tape_count])), (aTape_latest, .inl (cI, 16, .inl f_1))] H := hP
  have hD : va_D A [(aTape, .inr (7, [.ref aTape_latest, .int Tape_count])), (aTape_latest, .inl (cI, 16, .inl f_1))] := hD
  refine lv_aload_n hx hb dX8_add_13 rfl (lv_at hl 0 rfl) ?_
  refine lv_dup hx hb dX8_add_14 rfl ?_
  refine va_get (D := (dC, dI)) (ci := 7) (v := .int Tape_count) (C := RX8) (T := TX8) (N := 2) hx hb hts (fun w h => List.mem_cons_of_mem _ (inX8 w h)) hown hK hP 0 rfl rfl 1 (by decide) (hts _ (List.mem_cons_of_mem _ mw_200)) (fun _ h9 => h9) rfl dX8_add_15 ?_
  refine lv_iconst (v := (1 : Int32)) hx hb dX8_add_18 (by decide) ?_
  refine lv_iadd hx hb dX8_add_19 ?_
  refine va_put (D := (dC, dI)) (ci := 7) (v := .int (Tape_count + (1 : Int32))) (ty := .int) (C := RX8) (T := TX8) (N := 2) hx hb hts (fun w h => List.mem_cons_of_mem _ (inX8 w h)) tyX8 tyX8_ok nmX8 hown hK hP hD hS 0 rfl rfl 1 (by decide) (hts _ (List.mem_cons_of_mem _ mw_200)) (fun _ h9 => h9) rfl (by decide +kernel) rfl rfl (Nat.le_of_ble_eq_true rfl) dX8_add_20 (fun H locs hP hD hS => ?_)
  have hP : va_P (dC, dI) vwCl [(aTape, .inr (7, [.ref aTape_latest, .int (Tape_count + (1 : Int32))])), (aTape_latest, .inl (cI, 16, .inl f_1))] H := hP
  have hD : va_D A [(aTape, .inr (7, [.ref aTape_latest, .int (Tape_count + (1 : Int32))])), (aTape_latest, .inl (cI, 16, .inl f_1))] := hD
  cases h
  rw [hQ]
  exact W.vret hx hb hr (fun t ht hW => ⟨⟨(), rfl, trivial, by rw [ht]; exact hP, va_K.moved hW.alike hK, hD⟩, hS.F ht⟩) hS.2.2 dX8_add_23
abbrev rmX4_innermostCount : Room := { frames := 0, cells := 0, slots := 0, locals := 0 }
set_option maxHeartbeats 4000000 in
set_option maxRecDepth 100000 in
theorem ctX4_innermostCount (l : Launch) (dC : Nat → ClassId) (dI : Nat → Nat → Nat) (cI cC cJ : ClassId) (aLoops aLoops_counts aLoops_limits : Nat) (sz : Nat) (Loops_counts : Nat → Int32) (Loops_open : Int32)  (rr : Int32)  (h : fnX4_innermostCount Loops_counts Loops_open  = some rr) : Met l yX4_innermostCount wsX4_innermostCount rmX4_innermostCount (va_Pc [.ref aLoops] (fun U => U.heap.size = sz ∧ va_P (dC, dI) vwCl [(aLoops, .inr (4, [.ref aLoops_counts, .ref aLoops_limits, .int Loops_open])), (aLoops_counts, .inl (cI, 12, .inl Loops_counts))] U.heap ∧ va_K (dC, dI) vwCl [(cI, .int), (cC, .char), (cJ, .long)] U ∧ va_D (fun _ => True) [(aLoops, .inr (4, [.ref aLoops_counts, .ref aLoops_limits, .int Loops_open])), (aLoops_counts, .inl (cI, 12, .inl Loops_counts))])) (va_Qi (fun r (_ : Unit) => r = rr) (fun _ t => va_P (dC, dI) vwCl [(aLoops, .inr (4, [.ref aLoops_counts, .ref aLoops_limits, .int Loops_open])), (aLoops_counts, .inl (cI, 12, .inl Loops_counts))] t.heap ∧ va_K (dC, dI) vwCl [(cI, .int), (cC, .char), (cJ, .long)] t ∧ va_D (va_A [(aLoops, .inr (4, [.ref aLoops_counts, .ref aLoops_limits, .int Loops_open])), (aLoops_counts, .inl (cI, 12, .inl Loops_counts))] sz) [(aLoops, .inr (4, [.ref aLoops_counts, .ref aLoops_limits, .int Loops_open])), (aLoops_counts, .inl (cI, 12, .inl Loops_counts))]) (va_A [(aLoops, .inr (4, [.ref aLoops_counts, .ref aLoops_limits, .int Loops_open])), (aLoops_counts, .inl (cI, 12, .inl Loops_counts))] sz)) 0 0 (va_A [(aLoops, .inr (4, [.ref aLoops_counts, .ref aLoops_limits, .int Loops_open])), (aLoops_counts, .inl (cI, 12, .inl Loops_counts))] sz) := by
  refine Met.ofW (cc := cX4_innermostCount) (maxL := 1) (ret := (some .int)) (by decide) rfl ?_
  intro p e s m args below meth c s₁ B hml hv
  obtain ⟨hargs, hsz, hP, hK, hD0⟩ := hv
  have hx := B.exec
  have hb := B.bytes
  have hr := B.returns
  have hts := atoms_spec (ws := wsX4_innermostCount) B.pre
  have hown : s.vm.findClass RX4 = some m.cls := findClass_of_methodNamed B.named
  have hlocks := B.notSynchronized
  subst hsz
  have hD := hD0.self (sz := s.heap.size)
  generalize hAe : va_A [(aLoops, .inr (4, [.ref aLoops_counts, .ref aLoops_limits, .int Loops_open])), (aLoops_counts, .inl (cI, 12, .inl Loops_counts))] s.heap.size = A at hD ⊢
  have hA : ∀ q : Nat, s.heap.size ≤ q → A q := fun q h => by rw [← hAe]; exact Or.inr h
  have hS : va_S A s.heap s.heap [] := va_S.rf
  have hl := lv_entry ([.ref aLoops]) (n := 1) (Nat.le_of_ble_eq_true rfl)
  have hfr : entryFrame m args 1 = entryFrame m ([.ref aLoops] : List Value).toArray 1 := by rw [hargs]
  rw [hfr, lg_entry_eq]
  generalize (lg_sl ([.ref aLoops]) ++ List.replicate (1 - (lg_sl ([.ref aLoops])).length) Slot.unset).toArray = ls at hl ⊢
  have hl : lv_has ls 1 [(0, .ref aLoops)] := hl
  refine nameQ_ (fun Q hQ => ?_)
  unfold fnX4_innermostCount at h
  refine lv_aload_n hx hb dX4_innermostCount_0 rfl (lv_at hl 0 rfl) ?_
  refine va_get (D := (dC, dI)) (ci := 4) (v := .int Loops_open) (C := RX4) (T := TX4) (N := 3) hx hb hts (fun w h => List.mem_cons_of_mem _ (inX4 w h)) hown hK hP 0 rfl rfl 2 (by decide) (hts _ (List.mem_cons_of_mem _ mw_56)) (fun _ h9 => h9) rfl dX4_innermostCount_1 ?_
  refine lv_if_le (tgt := 30) hx hb dX4_innermostCount_4 (by decide) (fun c_1 => ?_) (fun c_1 => ?_)
  · have h := it_t c_1 h
    refine lv_iconst (v := (0 : Int32)) hx hb dX4_innermostCount_30 (by decide) ?_
    cases h
    rw [hQ]
    exact W.iret hx hb hr (fun t ht hW => ⟨⟨_, (), rfl, rfl, by rw [ht]; exact hP, va_K.moved hW.alike hK, hD⟩, hS.F ht⟩) hS.2.2 dX4_innermostCount_31
  · have h := it_f c_1 h
    refine lv_aload_n hx hb dX4_innermostCount_7 rfl (lv_at hl 0 rfl) ?_
    refine va_get (D := (dC, dI)) (ci := 4) (v := .int Loops_open) (C := RX4) (T := TX4) (N := 3) hx hb hts (fun w h => List.mem_cons_of_mem _ (inX4 w h)) hown hK hP 0 rfl rfl 2 (by decide) (hts _ (List.mem_cons_of_mem _ mw_56)) (fun _ h9 => h9) rfl dX4_innermostCount_8 ?_
    refine lv_bipush (v := (12 : Int32)) hx hb dX4_innermostCount_11 (by decide) ?_
    refine lv_icmp_gt (tgt := 30) hx hb dX4_innermostCount_13 (by decide) (fun c_2 => ?_) (fun c_2 => ?_)
    · have h := it_t c_2 h
      refine lv_iconst (v := (0 : Int32)) hx hb dX4_innermostCount_30 (by decide) ?_
      cases h
      rw [hQ]
      exact W.iret hx hb hr (fun t ht hW => ⟨⟨_, (), rfl, rfl, by rw [ht]; exact hP, va_K.moved hW.alike hK, hD⟩, hS.F ht⟩) hS.2.2 dX4_innermostCount_31
    · have h := it_f c_2 h
      refine lv_aload_n hx hb dX4_innermostCount_16 rfl (lv_at hl 0 rfl) ?_
      refine va_get (D := (dC, dI)) (ci := 4) (v := .ref aLoops_counts) (C := RX4) (T := TX4) (N := 3) hx hb hts (fun w h => List.mem_cons_of_mem _ (inX4 w h)) hown hK hP 0 rfl rfl 0 (by decide) (hts _ (List.mem_cons_of_mem _ mw_229)) (fun _ h9 => h9) rfl dX4_innermostCount_17 ?_
      refine lv_aload_n hx hb dX4_innermostCount_20 rfl (lv_at hl 0 rfl) ?_
      refine va_get (D := (dC, dI)) (ci := 4) (v := .int Loops_open) (C := RX4) (T := TX4) (N := 3) hx hb hts (fun w h => List.mem_cons_of_mem _ (inX4 w h)) hown hK hP 0 rfl rfl 2 (by decide) (hts _ (List.mem_cons_of_mem _ mw_56)) (fun _ h9 => h9) rfl dX4_innermostCount_21 ?_
      refine lv_iconst (v := (1 : Int32)) hx hb dX4_innermostCount_24 (by decide) ?_
      refine lv_isub hx hb dX4_innermostCount_25 ?_
      obtain ⟨x_3, hi_4, h⟩ := bd1_some h
      obtain ⟨hi_4, ex_5⟩ := ga_some hi_4
      refine va_iald hx hb hK hP 1 0 rfl rfl hi_4 dX4_innermostCount_26 ?_
      rw [← ex_5]
      refine lv_goto (tgt := 31) hx hb dX4_innermostCount_27 (by decide) ?_
      cases h
      rw [hQ]
      exact W.iret hx hb hr (fun t ht hW => ⟨⟨_, (), rfl, rfl, by rw [ht]; exact hP, va_K.moved hW.alike hK, hD⟩, hS.F ht⟩) hS.2.2 dX4_innermostCount_31
abbrev rmX4_begin : Room := { frames := 0, cells := 0, slots := 0, locals := 0 }
set_option maxHeartbeats 4000000 in
set_option maxRecDepth 100000 in
theorem ctX4_begin (l : Launch) (dC : Nat → ClassId) (dI : Nat → Nat → Nat) (cI cC cJ : ClassId) (aLoops aLoops_counts aLoops_limits : Nat) (sz : Nat) (Loops_counts : Nat → Int32) (Loops_limits : Nat → Int32) (Loops_open : Int32) (p0 : Int32) (p1 : Int32) (w_Loops_counts : Nat → Int32) (w_Loops_limits : Nat → Int32) (w_Loops_open : Int32) (h : fnX4_begin Loops_counts Loops_limits Loops_open p0 p1 = some (w_Loops_counts, w_Loops_limits, w_Loops_open)) : Met l yX4_begin wsX4_begin rmX4_begin (va_Pc [.ref aLoops, .int p0, .int p1] (fun U => U.heap.size = sz ∧ va_P (dC, dI) vwCl [(aLoops, .inr (4, [.ref aLoops_counts, .ref aLoops_limits, .int Loops_open])), (aLoops_counts, .inl (cI, 12, .inl Loops_counts)), (aLoops_limits, .inl (cI, 12, .inl Loops_limits))] U.heap ∧ va_K (dC, dI) vwCl [(cI, .int), (cC, .char), (cJ, .long)] U ∧ va_D (fun _ => True) [(aLoops, .inr (4, [.ref aLoops_counts, .ref aLoops_limits, .int Loops_open])), (aLoops_counts, .inl (cI, 12, .inl Loops_counts)), (aLoops_limits, .inl (cI, 12, .inl Loops_limits))])) (va_Qv (fun (_ : Unit) => True) (fun _ t => va_P (dC, dI) vwCl [(aLoops, .inr (4, [.ref aLoops_counts, .ref aLoops_limits, .int w_Loops_open])), (aLoops_counts, .inl (cI, 12, .inl w_Loops_counts)), (aLoops_limits, .inl (cI, 12, .inl w_Loops_limits))] t.heap ∧ va_K (dC, dI) vwCl [(cI, .int), (cC, .char), (cJ, .long)] t ∧ va_D (va_A [(aLoops, .inr (4, [.ref aLoops_counts, .ref aLoops_limits, .int Loops_open])), (aLoops_counts, .inl (cI, 12, .inl Loops_counts)), (aLoops_limits, .inl (cI, 12, .inl Loops_limits))] sz) [(aLoops, .inr (4, [.ref aLoops_counts, .ref aLoops_limits, .int w_Loops_open])), (aLoops_counts, .inl (cI, 12, .inl w_Loops_counts)), (aLoops_limits, .inl (cI, 12, .inl w_Loops_limits))]) (va_A [(aLoops, .inr (4, [.ref aLoops_counts, .ref aLoops_limits, .int Loops_open])), (aLoops_counts, .inl (cI, 12, .inl Loops_counts)), (aLoops_limits, .inl (cI, 12, .inl Loops_limits))] sz)) 0 0 (va_A [(aLoops, .inr (4, [.ref aLoops_counts, .ref aLoops_limits, .int Loops_open])), (aLoops_counts, .inl (cI, 12, .inl Loops_counts)), (aLoops_limits, .inl (cI, 12, .inl Loops_limits))] sz) := by
  refine Met.ofW (cc := cX4_begin) (maxL := 3) (ret := none) (by decide) rfl ?_
  intro p e s m args below meth c s₁ B hml hv
  obtain ⟨hargs, hsz, hP, hK, hD0⟩ := hv
  have hx := B.exec
  have hb := B.bytes
  have hr := B.returns
  have hts := atoms_spec (ws := wsX4_begin) B.pre
  have hown : s.vm.findClass RX4 = some m.cls := findClass_of_methodNamed B.named
  have hlocks := B.notSynchronized
  subst hsz
  have hD := hD0.self (sz := s.heap.size)
  generalize hAe : va_A [(aLoops, .inr (4, [.ref aLoops_counts, .ref aLoops_limits, .int Loops_open])), (aLoops_counts, .inl (cI, 12, .inl Loops_counts)), (aLoops_limits, .inl (cI, 12, .inl Loops_limits))] s.heap.size = A at hD ⊢
  have hA : ∀ q : Nat, s.heap.size ≤ q → A q := fun q h => by rw [← hAe]; exact Or.inr h
  have hS : va_S A s.heap s.heap [] := va_S.rf
  have hl := lv_entry ([.ref aLoops, .int p0, .int p1]) (n := 3) (Nat.le_of_ble_eq_true rfl)
  have hfr : entryFrame m args 3 = entryFrame m ([.ref aLoops, .int p0, .int p1] : List Value).toArray 3 := by rw [hargs]
  rw [hfr, lg_entry_eq]
  generalize (lg_sl ([.ref aLoops, .int p0, .int p1]) ++ List.replicate (3 - (lg_sl ([.ref aLoops, .int p0, .int p1])).length) Slot.unset).toArray = ls at hl ⊢
  have hl : lv_has ls 3 [(0, .ref aLoops), (1, .int p0), (2, .int p1)] := hl
  refine nameQ_ (fun Q hQ => ?_)
  unfold fnX4_begin at h
  refine lv_aload_n hx hb dX4_begin_0 rfl (lv_at hl 0 rfl) ?_
  refine va_get (D := (dC, dI)) (ci := 4) (v := .int Loops_open) (C := RX4) (T := TX4) (N := 3) hx hb hts (fun w h => List.mem_cons_of_mem _ (inX4 w h)) hown hK hP 0 rfl rfl 2 (by decide) (hts _ (List.mem_cons_of_mem _ mw_56)) (fun _ h9 => h9) rfl dX4_begin_1 ?_
  refine lv_if_lt (tgt := 46) hx hb dX4_begin_4 (by decide) (fun c_1 => ?_) (fun c_1 => ?_)
  · have h := it_t c_1 h
    cases h
    rw [hQ]
    exact W.vret hx hb hr (fun t ht hW => ⟨⟨(), rfl, trivial, by rw [ht]; exact hP, va_K.moved hW.alike hK, hD⟩, hS.F ht⟩) hS.2.2 dX4_begin_46
  · have h := it_f c_1 h
    refine lv_aload_n hx hb dX4_begin_7 rfl (lv_at hl 0 rfl) ?_
    refine va_get (D := (dC, dI)) (ci := 4) (v := .int Loops_open) (C := RX4) (T := TX4) (N := 3) hx hb hts (fun w h => List.mem_cons_of_mem _ (inX4 w h)) hown hK hP 0 rfl rfl 2 (by decide) (hts _ (List.mem_cons_of_mem _ mw_56)) (fun _ h9 => h9) rfl dX4_begin_8 ?_
    refine lv_bipush (v := (12 : Int32)) hx hb dX4_begin_11 (by decide) ?_
    refine lv_icmp_ge (tgt := 46) hx hb dX4_begin_13 (by decide) (fun c_2 => ?_) (fun c_2 => ?_)
    · have h := it_t c_2 h
      cases h
      rw [hQ]
      exact W.vret hx hb hr (fun t ht hW => ⟨⟨(), rfl, trivial, by rw [ht]; exact hP, va_K.moved hW.alike hK, hD⟩, hS.F ht⟩) hS.2.2 dX4_begin_46
    · have h := it_f c_2 h
      refine lv_aload_n hx hb dX4_begin_16 rfl (lv_at hl 0 rfl) ?_
      refine va_get (D := (dC, dI)) (ci := 4) (v := .ref aLoops_limits) (C := RX4) (T := TX4) (N := 3) hx hb hts (fun w h => List.mem_cons_of_mem _ (inX4 w h)) hown hK hP 0 rfl rfl 1 (by decide) (hts _ (List.mem_cons_of_mem _ mw_230)) (fun _ h9 => h9) rfl dX4_begin_17 ?_
      refine lv_aload_n hx hb dX4_begin_20 rfl (lv_at hl 0 rfl) ?_
      refine va_get (D := (dC, dI)) (ci := 4) (v := .int Loops_open) (C := RX4) (T := TX4) (N := 3) hx hb hts (fun w h => List.mem_cons_of_mem _ (inX4 w h)) hown hK hP 0 rfl rfl 2 (by decide) (hts _ (List.mem_cons_of_mem _ mw_56)) (fun _ h9 => h9) rfl dX4_begin_21 ?_
      refine lv_iload_n hx hb dX4_begin_24 rfl (lv_at hl 1 rfl) ?_
      obtain ⟨f_3, hi_4, h⟩ := bd1_some h
      obtain ⟨hi_4, ex_5⟩ := sa_some hi_4
      refine va_iast hx hb hK hP hD hS 2 0 rfl rfl hi_4 dX4_begin_25 (fun H locs hP hD hS => ?_)
      rw [← ex_5] at hP hD
      have hP : va_P (dC, dI) vwCl [(aLoops, .inr (4, [.ref aLoops_counts, .ref aLoops_limits, .int Loops_open])), (aLoops_counts, .inl (cI, 12, .inl Loops_counts)), (aLoops_limits, .inl (cI, 12, .inl f_3))] H := hP
      have hD : va_D A [(aLoops, .inr (4, [.ref aLoops_counts, .ref aLoops_limits, .int Loops_open])), (aLoops_counts, .inl (cI, 12, .inl Loops_counts)), (aLoops_limits, .inl (cI, 12, .inl f_3))] := hD
      refine lv_aload_n hx hb dX4_begin_26 rfl (lv_at hl 0 rfl) ?_
      refine va_get (D := (dC, dI)) (ci := 4) (v := .ref aLoops_counts) (C := RX4) (T := TX4) (N := 3) hx hb hts (fun w h => List.mem_cons_of_mem _ (inX4 w h)) hown hK hP 0 rfl rfl 0 (by decide) (hts _ (List.mem_cons_of_mem _ mw_229)) (fun _ h9 => h9) rfl dX4_begin_27 ?_
      refine lv_aload_n hx hb dX4_begin_30 rfl (lv_at hl 0 rfl) ?_
      refine va_get (D := (dC, dI)) (ci := 4) (v := .int Loops_open) (C := RX4) (T := TX4) (N := 3) hx hb hts (fun w h => List.mem_cons_of_mem _ (inX4 w h)) hown hK hP 0 rfl rfl 2 (by decide) (hts _ (List.mem_cons_of_mem _ mw_56)) (fun _ h9 => h9) rfl dX4_begin_31 ?_
      refine lv_iload_n hx hb dX4_begin_34 rfl (lv_at hl 2 rfl) ?_
      obtain ⟨f_6, hi_7, h⟩ := bd1_some h
      obtain ⟨hi_7, ex_8⟩ := sa_some hi_7
      refine va_iast hx hb hK hP hD hS 1 0 rfl rfl hi_7 dX4_begin_35 (fun H locs hP hD hS => ?_)
      rw [← ex_8] at hP hD
      have hP : va_P (dC, dI) vwCl [(aLoops, .inr (4, [.ref aLoops_counts, .ref aLoops_limits, .int Loops_open])), (aLoops_counts, .inl (cI, 12, .inl f_6)), (aLoops_limits, .inl (cI, 12, .inl f_3))] H := hP
      have hD : va_D A [(aLoops, .inr (4, [.ref aLoops_counts, .ref aLoops_limits, .int Loops_open])), (aLoops_counts, .inl (cI, 12, .inl f_6)), (aLoops_limits, .inl (cI, 12, .inl f_3))] := hD
      refine lv_aload_n hx hb dX4_begin_36 rfl (lv_at hl 0 rfl) ?_
      refine lv_dup hx hb dX4_begin_37 rfl ?_
      refine va_get (D := (dC, dI)) (ci := 4) (v := .int Loops_open) (C := RX4) (T := TX4) (N := 3) hx hb hts (fun w h => List.mem_cons_of_mem _ (inX4 w h)) hown hK hP 0 rfl rfl 2 (by decide) (hts _ (List.mem_cons_of_mem _ mw_56)) (fun _ h9 => h9) rfl dX4_begin_38 ?_
      refine lv_iconst (v := (1 : Int32)) hx hb dX4_begin_41 (by decide) ?_
      refine lv_iadd hx hb dX4_begin_42 ?_
      refine va_put (D := (dC, dI)) (ci := 4) (v := .int (Loops_open + (1 : Int32))) (ty := .int) (C := RX4) (T := TX4) (N := 3) hx hb hts (fun w h => List.mem_cons_of_mem _ (inX4 w h)) tyX4 tyX4_ok nmX4 hown hK hP hD hS 0 rfl rfl 2 (by decide) (hts _ (List.mem_cons_of_mem _ mw_56)) (fun _ h9 => h9) rfl (by decide +kernel) rfl rfl (Nat.le_of_ble_eq_true rfl) dX4_begin_43 (fun H locs hP hD hS => ?_)
      have hP : va_P (dC, dI) vwCl [(aLoops, .inr (4, [.ref aLoops_counts, .ref aLoops_limits, .int (Loops_open + (1 : Int32))])), (aLoops_counts, .inl (cI, 12, .inl f_6)), (aLoops_limits, .inl (cI, 12, .inl f_3))] H := hP
      have hD : va_D A [(aLoops, .inr (4, [.ref aLoops_counts, .ref aLoops_limits, .int (Loops_open + (1 : Int32))])), (aLoops_counts, .inl (cI, 12, .inl f_6)), (aLoops_limits, .inl (cI, 12, .inl f_3))] := hD
      cases h
      rw [hQ]
      exact W.vret hx hb hr (fun t ht hW => ⟨⟨(), rfl, trivial, by rw [ht]; exact hP, va_K.moved hW.alike hK, hD⟩, hS.F ht⟩) hS.2.2 dX4_begin_46
abbrev rmX4_goesRound : Room := { frames := 0, cells := 0, slots := 0, locals := 0 }
set_option maxHeartbeats 4000000 in
set_option maxRecDepth 100000 in
theorem ctX4_goesRound (l : Launch) (dC : Nat → ClassId) (dI : Nat → Nat → Nat) (cI cC cJ : ClassId) (aLoops aLoops_counts aLoops_limits : Nat) (sz : Nat) (Loops_counts : Nat → Int32) (Loops_limits : Nat → Int32) (Loops_open : Int32)  (rr : Int32) (w_Loops_counts : Nat → Int32) (w_Loops_open : Int32) (h : fnX4_goesRound Loops_counts Loops_limits Loops_open  = some (rr, w_Loops_counts, w_Loops_open)) : Met l yX4_goesRound wsX4_goesRound rmX4_goesRound (va_Pc [.ref aLoops] (fun U => U.heap.size = sz ∧ va_P (dC, dI) vwCl [(aLoops, .inr (4, [.ref aLoops_counts, .ref aLoops_limits, .int Loops_open])), (aLoops_counts, .inl (cI, 12, .inl Loops_counts)), (aLoops_limits, .inl (cI, 12, .inl Loops_limits))] U.heap ∧ va_K (dC, dI) vwCl [(cI, .int), (cC, .char), (cJ, .long)] U ∧ va_D (fun _ => True) [(aLoops, .inr (4, [.ref aLoops_counts, .ref aLoops_limits, .int Loops_open])), (aLoops_counts, .inl (cI, 12, .inl Loops_counts)), (aLoops_limits, .inl (cI, 12, .inl Loops_limits))])) (va_Qi (fun r (_ : Unit) => r = rr) (fun _ t => va_P (dC, dI) vwCl [(aLoops, .inr (4, [.ref aLoops_counts, .ref aLoops_limits, .int w_Loops_open])), (aLoops_counts, .inl (cI, 12, .inl w_Loops_counts)), (aLoops_limits, .inl (cI, 12, .inl Loops_limits))] t.heap ∧ va_K (dC, dI) vwCl [(cI, .int), (cC, .char), (cJ, .long)] t ∧ va_D (va_A [(aLoops, .inr (4, [.ref aLoops_counts, .ref aLoops_limits, .int Loops_open])), (aLoops_counts, .inl (cI, 12, .inl Loops_counts)), (aLoops_limits, .inl (cI, 12, .inl Loops_limits))] sz) [(aLoops, .inr (4, [.ref aLoops_counts, .ref aLoops_limits, .int w_Loops_open])), (aLoops_counts, .inl (cI, 12, .inl w_Loops_counts)), (aLoops_limits, .inl (cI, 12, .inl Loops_limits))]) (va_A [(aLoops, .inr (4, [.ref aLoops_counts, .ref aLoops_limits, .int Loops_open])), (aLoops_counts, .inl (cI, 12, .inl Loops_counts)), (aLoops_limits, .inl (cI, 12, .inl Loops_limits))] sz)) 0 0 (va_A [(aLoops, .inr (4, [.ref aLoops_counts, .ref aLoops_limits, .int Loops_open])), (aLoops_counts, .inl (cI, 12, .inl Loops_counts)), (aLoops_limits, .inl (cI, 12, .inl Loops_limits))] sz) := by
  refine Met.ofW (cc := cX4_goesRound) (maxL := 2) (ret := (some .boolean)) (by decide) rfl ?_
  intro p e s m args below meth c s₁ B hml hv
  obtain ⟨hargs, hsz, hP, hK, hD0⟩ := hv
  have hx := B.exec
  have hb := B.bytes
  have hr := B.returns
  have hts := atoms_spec (ws := wsX4_goesRound) B.pre
  have hown : s.vm.findClass RX4 = some m.cls := findClass_of_methodNamed B.named
  have hlocks := B.notSynchronized
  subst hsz
  have hD := hD0.self (sz := s.heap.size)
  generalize hAe : va_A [(aLoops, .inr (4, [.ref aLoops_counts, .ref aLoops_limits, .int Loops_open])), (aLoops_counts, .inl (cI, 12, .inl Loops_counts)), (aLoops_limits, .inl (cI, 12, .inl Loops_limits))] s.heap.size = A at hD ⊢
  have hA : ∀ q : Nat, s.heap.size ≤ q → A q := fun q h => by rw [← hAe]; exact Or.inr h
  have hS : va_S A s.heap s.heap [] := va_S.rf
  have hl := lv_entry ([.ref aLoops]) (n := 2) (Nat.le_of_ble_eq_true rfl)
  have hfr : entryFrame m args 2 = entryFrame m ([.ref aLoops] : List Value).toArray 2 := by rw [hargs]
  rw [hfr, lg_entry_eq]
  generalize (lg_sl ([.ref aLoops]) ++ List.replicate (2 - (lg_sl ([.ref aLoops])).length) Slot.unset).toArray = ls at hl ⊢
  have hl : lv_has ls 2 [(0, .ref aLoops)] := hl
  refine nameQ_ (fun Q hQ => ?_)
  unfold fnX4_goesRound at h
  refine lv_aload_n hx hb dX4_goesRound_0 rfl (lv_at hl 0 rfl) ?_
  refine va_get (D := (dC, dI)) (ci := 4) (v := .int Loops_open) (C := RX4) (T := TX4) (N := 3) hx hb hts (fun w h => List.mem_cons_of_mem _ (inX4 w h)) hown hK hP 0 rfl rfl 2 (by decide) (hts _ (List.mem_cons_of_mem _ mw_56)) (fun _ h9 => h9) rfl dX4_goesRound_1 ?_
  refine lv_if_le (tgt := 16) hx hb dX4_goesRound_4 (by decide) (fun c_1 => ?_) (fun c_1 => ?_)
  · have h := it_t c_1 h
    refine lv_iconst (v := (0 : Int32)) hx hb dX4_goesRound_16 (by decide) ?_
    cases h
    rw [hQ]
    exact W.zret (ty := .boolean) hx hb hr rfl (fun t ht hW => ⟨⟨_, (), rfl, rfl, by rw [ht]; exact hP, va_K.moved hW.alike hK, hD⟩, hS.F ht⟩) hS.2.2 dX4_goesRound_17
  · have h := it_f c_1 h
    refine lv_aload_n hx hb dX4_goesRound_7 rfl (lv_at hl 0 rfl) ?_
    refine va_get (D := (dC, dI)) (ci := 4) (v := .int Loops_open) (C := RX4) (T := TX4) (N := 3) hx hb hts (fun w h => List.mem_cons_of_mem _ (inX4 w h)) hown hK hP 0 rfl rfl 2 (by decide) (hts _ (List.mem_cons_of_mem _ mw_56)) (fun _ h9 => h9) rfl dX4_goesRound_8 ?_
    refine lv_bipush (v := (12 : Int32)) hx hb dX4_goesRound_11 (by decide) ?_
    refine lv_icmp_le (tgt := 18) hx hb dX4_goesRound_13 (by decide) (fun c_2 => ?_) (fun c_2 => ?_)
    · have h := it_t c_2 h
      refine lv_aload_n hx hb dX4_goesRound_18 rfl (lv_at hl 0 rfl) ?_
      refine va_get (D := (dC, dI)) (ci := 4) (v := .int Loops_open) (C := RX4) (T := TX4) (N := 3) hx hb hts (fun w h => List.mem_cons_of_mem _ (inX4 w h)) hown hK hP 0 rfl rfl 2 (by decide) (hts _ (List.mem_cons_of_mem _ mw_56)) (fun _ h9 => h9) rfl dX4_goesRound_19 ?_
      refine lv_iconst (v := (1 : Int32)) hx hb dX4_goesRound_22 (by decide) ?_
      refine lv_isub hx hb dX4_goesRound_23 ?_
      refine lv_istore_n (lv' := [(1, .int (Loops_open - (1 : Int32))), (0, .ref aLoops)]) hx hb dX4_goesRound_24 rfl hl (by decide) rfl (fun ls hl => ?_)
      refine lv_aload_n hx hb dX4_goesRound_25 rfl (lv_at hl 1 rfl) ?_
      refine va_get (D := (dC, dI)) (ci := 4) (v := .ref aLoops_counts) (C := RX4) (T := TX4) (N := 3) hx hb hts (fun w h => List.mem_cons_of_mem _ (inX4 w h)) hown hK hP 0 rfl rfl 0 (by decide) (hts _ (List.mem_cons_of_mem _ mw_229)) (fun _ h9 => h9) rfl dX4_goesRound_26 ?_
      refine lv_iload_n hx hb dX4_goesRound_29 rfl (lv_at hl 0 rfl) ?_
      refine lv_dup2_11 hx hb dX4_goesRound_30 rfl rfl ?_
      obtain ⟨x_3, hi_4, h⟩ := bd1_some h
      obtain ⟨hi_4, ex_5⟩ := ga_some hi_4
      refine va_iald hx hb hK hP 1 0 rfl rfl hi_4 dX4_goesRound_31 ?_
      rw [← ex_5]
      refine lv_iconst (v := (1 : Int32)) hx hb dX4_goesRound_32 (by decide) ?_
      refine lv_iadd hx hb dX4_goesRound_33 ?_
      obtain ⟨f_6, hi_7, h⟩ := bd1_some h
      obtain ⟨hi_7, ex_8⟩ := sa_some hi_7
      refine va_iast hx hb hK hP hD hS 1 0 rfl rfl hi_7 dX4_goesRound_34 (fun H locs hP hD hS => ?_)
      rw [← ex_8] at hP hD
      have hP : va_P (dC, dI) vwCl [(aLoops, .inr (4, [.ref aLoops_counts, .ref aLoops_limits, .int Loops_open])), (aLoops_counts, .inl (cI, 12, .inl f_6)), (aLoops_limits, .inl (cI, 12, .inl Loops_limits))] H := hP
      have hD : va_D A [(aLoops, .inr (4, [.ref aLoops_counts, .ref aLoops_limits, .int Loops_open])), (aLoops_counts, .inl (cI, 12, .inl f_6)), (aLoops_limits, .inl (cI, 12, .inl Loops_limits))] := hD
      refine lv_aload_n hx hb dX4_goesRound_35 rfl (lv_at hl 1 rfl) ?_
      refine va_get (D := (dC, dI)) (ci := 4) (v := .ref aLoops_counts) (C := RX4) (T := TX4) (N := 3) hx hb hts (fun w h => List.mem_cons_of_mem _ (inX4 w h)) hown hK hP 0 rfl rfl 0 (by decide) (hts _ (List.mem_cons_of_mem _ mw_229)) (fun _ h9 => h9) rfl dX4_goesRound_36 ?_
      refine lv_iload_n hx hb dX4_goesRound_39 rfl (lv_at hl 0 rfl) ?_
      obtain ⟨x_9, hi_10, h⟩ := bd1_some h
      obtain ⟨hi_10, ex_11⟩ := ga_some hi_10
      refine va_iald hx hb hK hP 1 0 rfl rfl hi_10 dX4_goesRound_40 ?_
      rw [← ex_11]
      refine lv_aload_n hx hb dX4_goesRound_41 rfl (lv_at hl 1 rfl) ?_
      refine va_get (D := (dC, dI)) (ci := 4) (v := .ref aLoops_limits) (C := RX4) (T := TX4) (N := 3) hx hb hts (fun w h => List.mem_cons_of_mem _ (inX4 w h)) hown hK hP 0 rfl rfl 1 (by decide) (hts _ (List.mem_cons_of_mem _ mw_230)) (fun _ h9 => h9) rfl dX4_goesRound_42 ?_
      refine lv_iload_n hx hb dX4_goesRound_45 rfl (lv_at hl 0 rfl) ?_
      obtain ⟨x_12, hi_13, h⟩ := bd1_some h
      obtain ⟨hi_13, ex_14⟩ := ga_some hi_13
      refine va_iald hx hb hK hP 2 0 rfl rfl hi_13 dX4_goesRound_46 ?_
      rw [← ex_14]
      refine lv_icmp_ne (tgt := 57) hx hb dX4_goesRound_47 (by decide) (fun c_15 => ?_) (fun c_15 => ?_)
      · have h := it_f c_15 h
        refine lv_iconst (v := (1 : Int32)) hx hb dX4_goesRound_57 (by decide) ?_
        cases h
        rw [hQ]
        exact W.zret (ty := .boolean) hx hb hr rfl (fun t ht hW => ⟨⟨_, (), rfl, rfl, by rw [ht]; exact hP, va_K.moved hW.alike hK, hD⟩, hS.F ht⟩) hS.2.2 dX4_goesRound_58
      · have h := it_t c_15 h
        refine lv_aload_n hx hb dX4_goesRound_50 rfl (lv_at hl 1 rfl) ?_
        refine lv_iload_n hx hb dX4_goesRound_51 rfl (lv_at hl 0 rfl) ?_
        refine va_put (D := (dC, dI)) (ci := 4) (v := .int (Loops_open - (1 : Int32))) (ty := .int) (C := RX4) (T := TX4) (N := 3) hx hb hts (fun w h => List.mem_cons_of_mem _ (inX4 w h)) tyX4 tyX4_ok nmX4 hown hK hP hD hS 0 rfl rfl 2 (by decide) (hts _ (List.mem_cons_of_mem _ mw_56)) (fun _ h9 => h9) rfl (by decide +kernel) rfl rfl (Nat.le_of_ble_eq_true rfl) dX4_goesRound_52 (fun H locs hP hD hS => ?_)
        have hP : va_P (dC, dI) vwCl [(aLoops, .inr (4, [.ref aLoops_counts, .ref aLoops_limits, .int (Loops_open - (1 : Int32))])), (aLoops_counts, .inl (cI, 12, .inl f_6)), (aLoops_limits, .inl (cI, 12, .inl Loops_limits))] H := hP
        have hD : va_D A [(aLoops, .inr (4, [.ref aLoops_counts, .ref aLoops_limits, .int (Loops_open - (1 : Int32))])), (aLoops_counts, .inl (cI, 12, .inl f_6)), (aLoops_limits, .inl (cI, 12, .inl Loops_limits))] := hD
        refine lv_iconst (v := (0 : Int32)) hx hb dX4_goesRound_55 (by decide) ?_
        cases h
        rw [hQ]
        exact W.zret (ty := .boolean) hx hb hr rfl (fun t ht hW => ⟨⟨_, (), rfl, rfl, by rw [ht]; exact hP, va_K.moved hW.alike hK, hD⟩, hS.F ht⟩) hS.2.2 dX4_goesRound_56
    · have h := it_f c_2 h
      refine lv_iconst (v := (0 : Int32)) hx hb dX4_goesRound_16 (by decide) ?_
      cases h
      rw [hQ]
      exact W.zret (ty := .boolean) hx hb hr rfl (fun t ht hW => ⟨⟨_, (), rfl, rfl, by rw [ht]; exact hP, va_K.moved hW.alike hK, hD⟩, hS.F ht⟩) hS.2.2 dX4_goesRound_17
abbrev rmX7_empty : Room := { frames := 0, cells := 0, slots := 0, locals := 0 }
set_option maxHeartbeats 4000000 in
set_option maxRecDepth 100000 in
theorem ctX7_empty (l : Launch) (dC : Nat → ClassId) (dI : Nat → Nat → Nat) (cI cC cJ : ClassId) (aStack aStack_values : Nat) (sz : Nat) (Stack_size : Int32)  (w_Stack_size : Int32) (h : fnX7_empty Stack_size  = some w_Stack_size) : Met l yX7_empty wsX7_empty rmX7_empty (va_Pc [.ref aStack] (fun U => U.heap.size = sz ∧ va_P (dC, dI) vwCl [(aStack, .inr (6, [.ref aStack_values, .int Stack_size]))] U.heap ∧ va_K (dC, dI) vwCl [(cI, .int), (cC, .char), (cJ, .long)] U ∧ va_D (fun _ => True) [(aStack, .inr (6, [.ref aStack_values, .int Stack_size]))])) (va_Qv (fun (_ : Unit) => True) (fun _ t => va_P (dC, dI) vwCl [(aStack, .inr (6, [.ref aStack_values, .int w_Stack_size]))] t.heap ∧ va_K (dC, dI) vwCl [(cI, .int), (cC, .char), (cJ, .long)] t ∧ va_D (va_A [(aStack, .inr (6, [.ref aStack_values, .int Stack_size]))] sz) [(aStack, .inr (6, [.ref aStack_values, .int w_Stack_size]))]) (va_A [(aStack, .inr (6, [.ref aStack_values, .int Stack_size]))] sz)) 0 0 (va_A [(aStack, .inr (6, [.ref aStack_values, .int Stack_size]))] sz) := by
  refine Met.ofW (cc := cX7_empty) (maxL := 1) (ret := none) (by decide) rfl ?_
  intro p e s m args below meth c s₁ B hml hv
  obtain ⟨hargs, hsz, hP, hK, hD0⟩ := hv
  have hx := B.exec
  have hb := B.bytes
  have hr := B.returns
  have hts := atoms_spec (ws := wsX7_empty) B.pre
  have hown : s.vm.findClass RX7 = some m.cls := findClass_of_methodNamed B.named
  have hlocks := B.notSynchronized
  subst hsz
  have hD := hD0.self (sz := s.heap.size)
  generalize hAe : va_A [(aStack, .inr (6, [.ref aStack_values, .int Stack_size]))] s.heap.size = A at hD ⊢
  have hA : ∀ q : Nat, s.heap.size ≤ q → A q := fun q h => by rw [← hAe]; exact Or.inr h
  have hS : va_S A s.heap s.heap [] := va_S.rf
  have hl := lv_entry ([.ref aStack]) (n := 1) (Nat.le_of_ble_eq_true rfl)
  have hfr : entryFrame m args 1 = entryFrame m ([.ref aStack] : List Value).toArray 1 := by rw [hargs]
  rw [hfr, lg_entry_eq]
  generalize (lg_sl ([.ref aStack]) ++ List.replicate (1 - (lg_sl ([.ref aStack])).length) Slot.unset).toArray = ls at hl ⊢
  have hl : lv_has ls 1 [(0, .ref aStack)] := hl
  refine nameQ_ (fun Q hQ => ?_)
  unfold fnX7_empty at h
  refine lv_aload_n hx hb dX7_empty_0 rfl (lv_at hl 0 rfl) ?_
  refine lv_iconst (v := (0 : Int32)) hx hb dX7_empty_1 (by decide) ?_
  refine va_put (D := (dC, dI)) (ci := 6) (v := .int (0 : Int32)) (ty := .int) (C := RX7) (T := TX7) (N := 2) hx hb hts (fun w h => List.mem_cons_of_mem _ (inX7 w h)) tyX7 tyX7_ok nmX7 hown hK hP hD hS 0 rfl rfl 1 (by decide) (hts _ (List.mem_cons_of_mem _ mw_147)) (fun _ h9 => h9) rfl (by decide +kernel) rfl rfl (Nat.le_of_ble_eq_true rfl) dX7_empty_2 (fun H locs hP hD hS => ?_)
  have hP : va_P (dC, dI) vwCl [(aStack, .inr (6, [.ref aStack_values, .int (0 : Int32)]))] H := hP
  have hD : va_D A [(aStack, .inr (6, [.ref aStack_values, .int (0 : Int32)]))] := hD
  cases h
  rw [hQ]
  exact W.vret hx hb hr (fun t ht hW => ⟨⟨(), rfl, trivial, by rw [ht]; exact hP, va_K.moved hW.alike hK, hD⟩, hS.F ht⟩) hS.2.2 dX7_empty_5
abbrev rmX7_has : Room := { frames := 0, cells := 0, slots := 0, locals := 0 }
set_option maxHeartbeats 4000000 in
set_option maxRecDepth 100000 in
theorem ctX7_has (l : Launch) (dC : Nat → ClassId) (dI : Nat → Nat → Nat) (cI cC cJ : ClassId) (aStack aStack_values : Nat) (sz : Nat) (Stack_size : Int32) (p0 : Int32) (rr : Int32)  (h : fnX7_has Stack_size p0 = some rr) : Met l yX7_has wsX7_has rmX7_has (va_Pc [.ref aStack, .int p0] (fun U => U.heap.size = sz ∧ va_P (dC, dI) vwCl [(aStack, .inr (6, [.ref aStack_values, .int Stack_size]))] U.heap ∧ va_K (dC, dI) vwCl [(cI, .int), (cC, .char), (cJ, .long)] U ∧ va_D (fun _ => True) [(aStack, .inr (6, [.ref aStack_values, .int Stack_size]))])) (va_Qi (fun r (_ : Unit) => r = rr) (fun _ t => va_P (dC, dI) vwCl [(aStack, .inr (6, [.ref aStack_values, .int Stack_size]))] t.heap ∧ va_K (dC, dI) vwCl [(cI, .int), (cC, .char), (cJ, .long)] t ∧ va_D (va_A [(aStack, .inr (6, [.ref aStack_values, .int Stack_size]))] sz) [(aStack, .inr (6, [.ref aStack_values, .int Stack_size]))]) (va_A [(aStack, .inr (6, [.ref aStack_values, .int Stack_size]))] sz)) 0 0 (va_A [(aStack, .inr (6, [.ref aStack_values, .int Stack_size]))] sz) := by
  refine Met.ofW (cc := cX7_has) (maxL := 2) (ret := (some .boolean)) (by decide) rfl ?_
  intro p e s m args below meth c s₁ B hml hv
  obtain ⟨hargs, hsz, hP, hK, hD0⟩ := hv
  have hx := B.exec
  have hb := B.bytes
  have hr := B.returns
  have hts := atoms_spec (ws := wsX7_has) B.pre
  have hown : s.vm.findClass RX7 = some m.cls := findClass_of_methodNamed B.named
  have hlocks := B.notSynchronized
  subst hsz
  have hD := hD0.self (sz := s.heap.size)
  generalize hAe : va_A [(aStack, .inr (6, [.ref aStack_values, .int Stack_size]))] s.heap.size = A at hD ⊢
  have hA : ∀ q : Nat, s.heap.size ≤ q → A q := fun q h => by rw [← hAe]; exact Or.inr h
  have hS : va_S A s.heap s.heap [] := va_S.rf
  have hl := lv_entry ([.ref aStack, .int p0]) (n := 2) (Nat.le_of_ble_eq_true rfl)
  have hfr : entryFrame m args 2 = entryFrame m ([.ref aStack, .int p0] : List Value).toArray 2 := by rw [hargs]
  rw [hfr, lg_entry_eq]
  generalize (lg_sl ([.ref aStack, .int p0]) ++ List.replicate (2 - (lg_sl ([.ref aStack, .int p0])).length) Slot.unset).toArray = ls at hl ⊢
  have hl : lv_has ls 2 [(0, .ref aStack), (1, .int p0)] := hl
  refine nameQ_ (fun Q hQ => ?_)
  unfold fnX7_has at h
  refine lv_iload_n hx hb dX7_has_0 rfl (lv_at hl 1 rfl) ?_
  refine lv_if_lt (tgt := 16) hx hb dX7_has_1 (by decide) (fun c_1 => ?_) (fun c_1 => ?_)
  · have h := it_t c_1 h
    refine lv_iconst (v := (0 : Int32)) hx hb dX7_has_16 (by decide) ?_
    cases h
    rw [hQ]
    exact W.zret (ty := .boolean) hx hb hr rfl (fun t ht hW => ⟨⟨_, (), rfl, rfl, by rw [ht]; exact hP, va_K.moved hW.alike hK, hD⟩, hS.F ht⟩) hS.2.2 dX7_has_17
  · have h := it_f c_1 h
    refine lv_iload_n hx hb dX7_has_4 rfl (lv_at hl 1 rfl) ?_
    refine lv_aload_n hx hb dX7_has_5 rfl (lv_at hl 0 rfl) ?_
    refine va_get (D := (dC, dI)) (ci := 6) (v := .int Stack_size) (C := RX7) (T := TX7) (N := 2) hx hb hts (fun w h => List.mem_cons_of_mem _ (inX7 w h)) hown hK hP 0 rfl rfl 1 (by decide) (hts _ (List.mem_cons_of_mem _ mw_147)) (fun _ h9 => h9) rfl dX7_has_6 ?_
    refine lv_icmp_ge (tgt := 16) hx hb dX7_has_9 (by decide) (fun c_2 => ?_) (fun c_2 => ?_)
    · have h := it_t c_2 h
      refine lv_iconst (v := (0 : Int32)) hx hb dX7_has_16 (by decide) ?_
      cases h
      rw [hQ]
      exact W.zret (ty := .boolean) hx hb hr rfl (fun t ht hW => ⟨⟨_, (), rfl, rfl, by rw [ht]; exact hP, va_K.moved hW.alike hK, hD⟩, hS.F ht⟩) hS.2.2 dX7_has_17
    · have h := it_f c_2 h
      refine lv_iconst (v := (1 : Int32)) hx hb dX7_has_12 (by decide) ?_
      refine lv_goto (tgt := 17) hx hb dX7_has_13 (by decide) ?_
      cases h
      rw [hQ]
      exact W.zret (ty := .boolean) hx hb hr rfl (fun t ht hW => ⟨⟨_, (), rfl, rfl, by rw [ht]; exact hP, va_K.moved hW.alike hK, hD⟩, hS.F ht⟩) hS.2.2 dX7_has_17
abbrev rmX8_count : Room := { frames := 0, cells := 0, slots := 0, locals := 0 }
set_option maxHeartbeats 4000000 in
set_option maxRecDepth 100000 in
theorem ctX8_count (l : Launch) (dC : Nat → ClassId) (dI : Nat → Nat → Nat) (cI cC cJ : ClassId) (aTape aTape_latest : Nat) (sz : Nat) (Tape_count : Int32)  (rr : Int32)  (h : fnX8_count Tape_count  = some rr) : Met l yX8_count wsX8_count rmX8_count (va_Pc [.ref aTape] (fun U => U.heap.size = sz ∧ va_P (dC, dI) vwCl [(aTape, .inr (7, [.ref aTape_latest, .int Tape_count]))] U.heap ∧ va_K (dC, dI) vwCl [(cI, .int), (cC, .char), (cJ, .long)] U ∧ va_D (fun _ => True) [(aTape, .inr (7, [.ref aTape_latest, .int Tape_count]))])) (va_Qi (fun r (_ : Unit) => r = rr) (fun _ t => va_P (dC, dI) vwCl [(aTape, .inr (7, [.ref aTape_latest, .int Tape_count]))] t.heap ∧ va_K (dC, dI) vwCl [(cI, .int), (cC, .char), (cJ, .long)] t ∧ va_D (va_A [(aTape, .inr (7, [.ref aTape_latest, .int Tape_count]))] sz) [(aTape, .inr (7, [.ref aTape_latest, .int Tape_count]))]) (va_A [(aTape, .inr (7, [.ref aTape_latest, .int Tape_count]))] sz)) 0 0 (va_A [(aTape, .inr (7, [.ref aTape_latest, .int Tape_count]))] sz) := by
  refine Met.ofW (cc := cX8_count) (maxL := 1) (ret := (some .int)) (by decide) rfl ?_
  intro p e s m args below meth c s₁ B hml hv
  obtain ⟨hargs, hsz, hP, hK, hD0⟩ := hv
  have hx := B.exec
  have hb := B.bytes
  have hr := B.returns
  have hts := atoms_spec (ws := wsX8_count) B.pre
  have hown : s.vm.findClass RX8 = some m.cls := findClass_of_methodNamed B.named
  have hlocks := B.notSynchronized
  subst hsz
  have hD := hD0.self (sz := s.heap.size)
  generalize hAe : va_A [(aTape, .inr (7, [.ref aTape_latest, .int Tape_count]))] s.heap.size = A at hD ⊢
  have hA : ∀ q : Nat, s.heap.size ≤ q → A q := fun q h => by rw [← hAe]; exact Or.inr h
  have hS : va_S A s.heap s.heap [] := va_S.rf
  have hl := lv_entry ([.ref aTape]) (n := 1) (Nat.le_of_ble_eq_true rfl)
  have hfr : entryFrame m args 1 = entryFrame m ([.ref aTape] : List Value).toArray 1 := by rw [hargs]
  rw [hfr, lg_entry_eq]
  generalize (lg_sl ([.ref aTape]) ++ List.replicate (1 - (lg_sl ([.ref aTape])).length) Slot.unset).toArray = ls at hl ⊢
  have hl : lv_has ls 1 [(0, .ref aTape)] := hl
  refine nameQ_ (fun Q hQ => ?_)
  unfold fnX8_count at h
  refine lv_aload_n hx hb dX8_count_0 rfl (lv_at hl 0 rfl) ?_
  refine va_get (D := (dC, dI)) (ci := 7) (v := .int Tape_count) (C := RX8) (T := TX8) (N := 2) hx hb hts (fun w h => List.mem_cons_of_mem _ (inX8 w h)) hown hK hP 0 rfl rfl 1 (by decide) (hts _ (List.mem_cons_of_mem _ mw_200)) (fun _ h9 => h9) rfl dX8_count_1 ?_
  cases h
  rw [hQ]
  exact W.iret hx hb hr (fun t ht hW => ⟨⟨_, (), rfl, rfl, by rw [ht]; exact hP, va_K.moved hW.alike hK, hD⟩, hS.F ht⟩) hS.2.2 dX8_count_4
abbrev rmX8_has : Room := { frames := 0, cells := 0, slots := 0, locals := 0 }
set_option maxHeartbeats 4000000 in
set_option maxRecDepth 100000 in
theorem ctX8_has (l : Launch) (dC : Nat → ClassId) (dI : Nat → Nat → Nat) (cI cC cJ : ClassId) (aTape aTape_latest : Nat) (sz : Nat) (Tape_count : Int32) (p0 : Int32) (rr : Int32)  (h : fnX8_has Tape_count p0 = some rr) : Met l yX8_has wsX8_has rmX8_has (va_Pc [.ref aTape, .int p0] (fun U => U.heap.size = sz ∧ va_P (dC, dI) vwCl [(aTape, .inr (7, [.ref aTape_latest, .int Tape_count]))] U.heap ∧ va_K (dC, dI) vwCl [(cI, .int), (cC, .char), (cJ, .long)] U ∧ va_D (fun _ => True) [(aTape, .inr (7, [.ref aTape_latest, .int Tape_count]))])) (va_Qi (fun r (_ : Unit) => r = rr) (fun _ t => va_P (dC, dI) vwCl [(aTape, .inr (7, [.ref aTape_latest, .int Tape_count]))] t.heap ∧ va_K (dC, dI) vwCl [(cI, .int), (cC, .char), (cJ, .long)] t ∧ va_D (va_A [(aTape, .inr (7, [.ref aTape_latest, .int Tape_count]))] sz) [(aTape, .inr (7, [.ref aTape_latest, .int Tape_count]))]) (va_A [(aTape, .inr (7, [.ref aTape_latest, .int Tape_count]))] sz)) 0 0 (va_A [(aTape, .inr (7, [.ref aTape_latest, .int Tape_count]))] sz) := by
  refine Met.ofW (cc := cX8_has) (maxL := 2) (ret := (some .boolean)) (by decide) rfl ?_
  intro p e s m args below meth c s₁ B hml hv
  obtain ⟨hargs, hsz, hP, hK, hD0⟩ := hv
  have hx := B.exec
  have hb := B.bytes
  have hr := B.returns
  have hts := atoms_spec (ws := wsX8_has) B.pre
  have hown : s.vm.findClass RX8 = some m.cls := findClass_of_methodNamed B.named
  have hlocks := B.notSynchronized
  subst hsz
  have hD := hD0.self (sz := s.heap.size)
  generalize hAe : va_A [(aTape, .inr (7, [.ref aTape_latest, .int Tape_count]))] s.heap.size = A at hD ⊢
  have hA : ∀ q : Nat, s.heap.size ≤ q → A q := fun q h => by rw [← hAe]; exact Or.inr h
  have hS : va_S A s.heap s.heap [] := va_S.rf
  have hl := lv_entry ([.ref aTape, .int p0]) (n := 2) (Nat.le_of_ble_eq_true rfl)
  have hfr : entryFrame m args 2 = entryFrame m ([.ref aTape, .int p0] : List Value).toArray 2 := by rw [hargs]
  rw [hfr, lg_entry_eq]
  generalize (lg_sl ([.ref aTape, .int p0]) ++ List.replicate (2 - (lg_sl ([.ref aTape, .int p0])).length) Slot.unset).toArray = ls at hl ⊢
  have hl : lv_has ls 2 [(0, .ref aTape), (1, .int p0)] := hl
  refine nameQ_ (fun Q hQ => ?_)
  unfold fnX8_has at h
  refine lv_iload_n hx hb dX8_has_0 rfl (lv_at hl 1 rfl) ?_
  refine lv_if_lt (tgt := 22) hx hb dX8_has_1 (by decide) (fun c_1 => ?_) (fun c_1 => ?_)
  · have h := it_t c_1 h
    refine lv_iconst (v := (0 : Int32)) hx hb dX8_has_22 (by decide) ?_
    cases h
    rw [hQ]
    exact W.zret (ty := .boolean) hx hb hr rfl (fun t ht hW => ⟨⟨_, (), rfl, rfl, by rw [ht]; exact hP, va_K.moved hW.alike hK, hD⟩, hS.F ht⟩) hS.2.2 dX8_has_23
  · have h := it_f c_1 h
    refine lv_iload_n hx hb dX8_has_4 rfl (lv_at hl 1 rfl) ?_
    refine lv_bipush (v := (16 : Int32)) hx hb dX8_has_5 (by decide) ?_
    refine lv_icmp_ge (tgt := 22) hx hb dX8_has_7 (by decide) (fun c_2 => ?_) (fun c_2 => ?_)
    · have h := it_t c_2 h
      refine lv_iconst (v := (0 : Int32)) hx hb dX8_has_22 (by decide) ?_
      cases h
      rw [hQ]
      exact W.zret (ty := .boolean) hx hb hr rfl (fun t ht hW => ⟨⟨_, (), rfl, rfl, by rw [ht]; exact hP, va_K.moved hW.alike hK, hD⟩, hS.F ht⟩) hS.2.2 dX8_has_23
    · have h := it_f c_2 h
      refine lv_iload_n hx hb dX8_has_10 rfl (lv_at hl 1 rfl) ?_
      refine lv_aload_n hx hb dX8_has_11 rfl (lv_at hl 0 rfl) ?_
      refine va_get (D := (dC, dI)) (ci := 7) (v := .int Tape_count) (C := RX8) (T := TX8) (N := 2) hx hb hts (fun w h => List.mem_cons_of_mem _ (inX8 w h)) hown hK hP 0 rfl rfl 1 (by decide) (hts _ (List.mem_cons_of_mem _ mw_200)) (fun _ h9 => h9) rfl dX8_has_12 ?_
      refine lv_icmp_ge (tgt := 22) hx hb dX8_has_15 (by decide) (fun c_3 => ?_) (fun c_3 => ?_)
      · have h := it_t c_3 h
        refine lv_iconst (v := (0 : Int32)) hx hb dX8_has_22 (by decide) ?_
        cases h
        rw [hQ]
        exact W.zret (ty := .boolean) hx hb hr rfl (fun t ht hW => ⟨⟨_, (), rfl, rfl, by rw [ht]; exact hP, va_K.moved hW.alike hK, hD⟩, hS.F ht⟩) hS.2.2 dX8_has_23
      · have h := it_f c_3 h
        refine lv_iconst (v := (1 : Int32)) hx hb dX8_has_18 (by decide) ?_
        refine lv_goto (tgt := 23) hx hb dX8_has_19 (by decide) ?_
        cases h
        rw [hQ]
        exact W.zret (ty := .boolean) hx hb hr rfl (fun t ht hW => ⟨⟨_, (), rfl, rfl, by rw [ht]; exact hP, va_K.moved hW.alike hK, hD⟩, hS.F ht⟩) hS.2.2 dX8_has_23
abbrev rmX8_fromLatest : Room := { frames := 0, cells := 0, slots := 0, locals := 0 }
set_option maxHeartbeats 4000000 in
set_option maxRecDepth 100000 in
theorem ctX8_fromLatest (l : Launch) (dC : Nat → ClassId) (dI : Nat → Nat → Nat) (cI cC cJ : ClassId) (aTape aTape_latest : Nat) (sz : Nat) (Tape_latest : Nat → Int32) (Tape_count : Int32) (p0 : Int32) (rr : Int32)  (h : fnX8_fromLatest Tape_latest Tape_count p0 = some rr) : Met l yX8_fromLatest wsX8_fromLatest rmX8_fromLatest (va_Pc [.ref aTape, .int p0] (fun U => U.heap.size = sz ∧ va_P (dC, dI) vwCl [(aTape, .inr (7, [.ref aTape_latest, .int Tape_count])), (aTape_latest, .inl (cI, 16, .inl Tape_latest))] U.heap ∧ va_K (dC, dI) vwCl [(cI, .int), (cC, .char), (cJ, .long)] U ∧ va_D (fun _ => True) [(aTape, .inr (7, [.ref aTape_latest, .int Tape_count])), (aTape_latest, .inl (cI, 16, .inl Tape_latest))])) (va_Qi (fun r (_ : Unit) => r = rr) (fun _ t => va_P (dC, dI) vwCl [(aTape, .inr (7, [.ref aTape_latest, .int Tape_count])), (aTape_latest, .inl (cI, 16, .inl Tape_latest))] t.heap ∧ va_K (dC, dI) vwCl [(cI, .int), (cC, .char), (cJ, .long)] t ∧ va_D (va_A [(aTape, .inr (7, [.ref aTape_latest, .int Tape_count])), (aTape_latest, .inl (cI, 16, .inl Tape_latest))] sz) [(aTape, .inr (7, [.ref aTape_latest, .int Tape_count])), (aTape_latest, .inl (cI, 16, .inl Tape_latest))]) (va_A [(aTape, .inr (7, [.ref aTape_latest, .int Tape_count])), (aTape_latest, .inl (cI, 16, .inl Tape_latest))] sz)) 0 0 (va_A [(aTape, .inr (7, [.ref aTape_latest, .int Tape_count])), (aTape_latest, .inl (cI, 16, .inl Tape_latest))] sz) := by
  refine Met.ofW (cc := cX8_fromLatest) (maxL := 2) (ret := (some .int)) (by decide) rfl ?_
  intro p e s m args below meth c s₁ B hml hv
  obtain ⟨hargs, hsz, hP, hK, hD0⟩ := hv
  have hx := B.exec
  have hb := B.bytes
  have hr := B.returns
  have hts := atoms_spec (ws := wsX8_fromLatest) B.pre
  have hown : s.vm.findClass RX8 = some m.cls := findClass_of_methodNamed B.named
  have hlocks := B.notSynchronized
  subst hsz
  have hD := hD0.self (sz := s.heap.size)
  generalize hAe : va_A [(aTape, .inr (7, [.ref aTape_latest, .int Tape_count])), (aTape_latest, .inl (cI, 16, .inl Tape_latest))] s.heap.size = A at hD ⊢
  have hA : ∀ q : Nat, s.heap.size ≤ q → A q := fun q h => by rw [← hAe]; exact Or.inr h
  have hS : va_S A s.heap s.heap [] := va_S.rf
  have hl := lv_entry ([.ref aTape, .int p0]) (n := 2) (Nat.le_of_ble_eq_true rfl)
  have hfr : entryFrame m args 2 = entryFrame m ([.ref aTape, .int p0] : List Value).toArray 2 := by rw [hargs]
  rw [hfr, lg_entry_eq]
  generalize (lg_sl ([.ref aTape, .int p0]) ++ List.replicate (2 - (lg_sl ([.ref aTape, .int p0])).length) Slot.unset).toArray = ls at hl ⊢
  have hl : lv_has ls 2 [(0, .ref aTape), (1, .int p0)] := hl
  refine nameQ_ (fun Q hQ => ?_)
  unfold fnX8_fromLatest at h
  refine lv_aload_n hx hb dX8_fromLatest_0 rfl (lv_at hl 0 rfl) ?_
  refine va_get (D := (dC, dI)) (ci := 7) (v := .ref aTape_latest) (C := RX8) (T := TX8) (N := 2) hx hb hts (fun w h => List.mem_cons_of_mem _ (inX8 w h)) hown hK hP 0 rfl rfl 0 (by decide) (hts _ (List.mem_cons_of_mem _ mw_199)) (fun _ h9 => h9) rfl dX8_fromLatest_1 ?_
  refine lv_aload_n hx hb dX8_fromLatest_4 rfl (lv_at hl 0 rfl) ?_
  refine va_get (D := (dC, dI)) (ci := 7) (v := .int Tape_count) (C := RX8) (T := TX8) (N := 2) hx hb hts (fun w h => List.mem_cons_of_mem _ (inX8 w h)) hown hK hP 0 rfl rfl 1 (by decide) (hts _ (List.mem_cons_of_mem _ mw_200)) (fun _ h9 => h9) rfl dX8_fromLatest_5 ?_
  refine lv_iconst (v := (1 : Int32)) hx hb dX8_fromLatest_8 (by decide) ?_
  refine lv_isub hx hb dX8_fromLatest_9 ?_
  refine lv_iload_n hx hb dX8_fromLatest_10 rfl (lv_at hl 1 rfl) ?_
  refine lv_isub hx hb dX8_fromLatest_11 ?_
  refine lv_bipush (v := (15 : Int32)) hx hb dX8_fromLatest_12 (by decide) ?_
  refine lv_iand hx hb dX8_fromLatest_14 ?_
  obtain ⟨x_1, hi_2, h⟩ := bd1_some h
  obtain ⟨hi_2, ex_3⟩ := ga_some hi_2
  refine va_iald hx hb hK hP 1 0 rfl rfl hi_2 dX8_fromLatest_15 ?_
  rw [← ex_3]
  cases h
  rw [hQ]
  exact W.iret hx hb hr (fun t ht hW => ⟨⟨_, (), rfl, rfl, by rw [ht]; exact hP, va_K.moved hW.alike hK, hD⟩, hS.F ht⟩) hS.2.2 dX8_fromLatest_16
