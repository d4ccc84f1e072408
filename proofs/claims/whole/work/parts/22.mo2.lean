abbrev rmX12_meant : Room := { frames := 0, cells := 0, slots := 0, locals := 0 }
set_option maxHeartbeats 4000000 in
set_option maxRecDepth 100000 in
theorem ctX12_meant (l : Launch) (dC : Nat → ClassId) (dI : Nat → Nat → Nat) (cI cC cJ : ClassId) (aMo aMo_text aMo_from aMo_to aMo_stack aMo_memory aMo_out aMo_names aMo_starts aMo_sizes aMo_kind aMo_what aMo_running aMo_at aMo_limits aMo_counts aMo_owner aMo_open : Nat) (sz : Nat) (Mo_length : Int32) (Mo_words : Int32) (Mo_height : Int32) (Mo_outs : Int32) (Mo_names : Nat → Int64) (Mo_defined : Int32) (Mo_deep : Int32) (Mo_loops : Int32) (Mo_steps : Int32) (Mo_fault : Int32) (Mo_place : Int32) (p0 : Int64) (rr : Int32)  (h : fnX12_meant Mo_names Mo_defined p0 = some rr) : Met l yX12_meant wsX12_meant rmX12_meant (va_Pc [.ref aMo, .long p0] (fun U => U.heap.size = sz ∧ va_P (dC, dI) vwCl [(aMo, .inr (11, [.ref aMo_text, .int Mo_length, .ref aMo_from, .ref aMo_to, .int Mo_words, .ref aMo_stack, .int Mo_height, .ref aMo_memory, .ref aMo_out, .int Mo_outs, .ref aMo_names, .ref aMo_starts, .ref aMo_sizes, .int Mo_defined, .ref aMo_kind, .ref aMo_what, .ref aMo_running, .ref aMo_at, .int Mo_deep, .ref aMo_limits, .ref aMo_counts, .ref aMo_owner, .int Mo_loops, .ref aMo_open, .int Mo_steps, .int Mo_fault, .int Mo_place])), (aMo_names, .inl (cJ, 20, .inr (.inl Mo_names)))] U.heap ∧ va_K (dC, dI) vwCl [(cI, .int), (cC, .char), (cJ, .long)] U ∧ va_D (fun _ => True) [(aMo, .inr (11, [.ref aMo_text, .int Mo_length, .ref aMo_from, .ref aMo_to, .int Mo_words, .ref aMo_stack, .int Mo_height, .ref aMo_memory, .ref aMo_out, .int Mo_outs, .ref aMo_names, .ref aMo_starts, .ref aMo_sizes, .int Mo_defined, .ref aMo_kind, .ref aMo_what, .ref aMo_running, .ref aMo_at, .int Mo_deep, .ref aMo_limits, .ref aMo_counts, .ref aMo_owner, .int Mo_loops, .ref aMo_open, .int Mo_steps, .int Mo_fault, .int Mo_place])), (aMo_names, .inl (cJ, 20, .inr (.inl Mo_names)))])) (va_Qi (fun r (_ : Unit) => r = rr) (fun _ t => va_P (dC, dI) vwCl [(aMo, .inr (11, [.ref aMo_text, .int Mo_length, .ref aMo_from, .ref aMo_to, .int Mo_words, .ref aMo_stack, .int Mo_height, .ref aMo_memory, .ref aMo_out, .int Mo_outs, .ref aMo_names, .ref aMo_starts, .ref aMo_sizes, .int Mo_defined, .ref aMo_kind, .ref aMo_what, .ref aMo_running, .ref aMo_at, .int Mo_deep, .ref aMo_limits, .ref aMo_counts, .ref aMo_owner, .int Mo_loops, .ref aMo_open, .int Mo_steps, .int Mo_fault, .int Mo_place])), (aMo_names, .inl (cJ, 20, .inr (.inl Mo_names)))] t.heap ∧ va_K (dC, dI) vwCl [(cI, .int), (cC, .char), (cJ, .long)] t ∧ va_D (va_A [(aMo, .inr (11, [.ref aMo_text, .int Mo_length, .ref aMo_from, .ref aMo_to, .int Mo_words, .ref aMo_stack, .int Mo_height, .ref aMo_memory, .ref aMo_out, .int Mo_outs, .ref aMo_names, .ref aMo_starts, .ref aMo_sizes, .int Mo_defined, .ref aMo_kind, .ref aMo_what, .ref aMo_running, .ref aMo_at, .int Mo_deep, .ref aMo_limits, .ref aMo_counts, .ref aMo_owner, .int Mo_loops, .ref aMo_open, .int Mo_steps, .int Mo_fault, .int Mo_place])), (aMo_names, .inl (cJ, 20, .inr (.inl Mo_names)))] sz) [(aMo, .inr (11, [.ref aMo_text, .int Mo_length, .ref aMo_from, .ref aMo_to, .int Mo_words, .ref aMo_stack, .int Mo_height, .ref aMo_memory, .ref aMo_out, .int Mo_outs, .ref aMo_names, .ref aMo_starts, .ref aMo_sizes, .int Mo_defined, .ref aMo_kind, .ref aMo_what, .ref aMo_running, .ref aMo_at, .int Mo_deep, .ref aMo_limits, .ref aMo_counts, .ref aMo_owner, .int Mo_loops, .ref aMo_open, .int Mo_steps, .int Mo_fault, .int Mo_place])), (aMo_names, .inl (cJ, 20, .inr (.inl Mo_names)))]) (va_A [(aMo, .inr (11, [.ref aMo_text, .int Mo_length, .ref aMo_from, .ref aMo_to, .int Mo_words, .ref aMo_stack, .int Mo_height, .ref aMo_memory, .ref aMo_out, .int Mo_outs, .ref aMo_names, .ref aMo_starts, .ref aMo_sizes, .int Mo_defined, .ref aMo_kind, .ref aMo_what, .ref aMo_running, .ref aMo_at, .int Mo_deep, .ref aMo_limits, .ref aMo_counts, .ref aMo_owner, .int Mo_loops, .ref aMo_open, .int Mo_steps, .int Mo_fault, .int Mo_place])), (aMo_names, .inl (cJ, 20, .inr (.inl Mo_names)))] sz)) 0 0 (va_A [(aMo, .inr (11, [.ref aMo_text, .int Mo_length, .ref aMo_from, .ref aMo_to, .int Mo_words, .ref aMo_stack, .int Mo_height, .ref aMo_memory, .ref aMo_out, .int Mo_outs, .ref aMo_names, .ref aMo_starts, .ref aMo_sizes, .int Mo_defined, .ref aMo_kind, .ref aMo_what, .ref aMo_running, .ref aMo_at, .int Mo_deep, .ref aMo_limits, .ref aMo_counts, .ref aMo_owner, .int Mo_loops, .ref aMo_open, .int Mo_steps, .int Mo_fault, .int Mo_place])), (aMo_names, .inl (cJ, 20, .inr (.inl Mo_names)))] sz) := by
  refine Met.ofW (cc := cX12_meant) (maxL := 4) (ret := (some .int)) (by decide) rfl ?_
  intro p e s m args below meth c s₁ B hml hv
  obtain ⟨hargs, hsz, hP, hK, hD0⟩ := hv
  have hx := B.exec
  have hb := B.bytes
  have hr := B.returns
  have hts := atoms_spec (ws := wsX12_meant) B.pre
  have hown : s.vm.findClass RX12 = some m.cls := findClass_of_methodNamed B.named
  have hlocks := B.notSynchronized
  subst hsz
  have hD := hD0.self (sz := s.heap.size)
  generalize hAe : va_A [(aMo, .inr (11, [.ref aMo_text, .int Mo_length, .ref aMo_from, .ref aMo_to, .int Mo_words, .ref aMo_stack, .int Mo_height, .ref aMo_memory, .ref aMo_out, .int Mo_outs, .ref aMo_names, .ref aMo_starts, .ref aMo_sizes, .int Mo_defined, .ref aMo_kind, .ref aMo_what, .ref aMo_running, .ref aMo_at, .int Mo_deep, .ref aMo_limits, .ref aMo_counts, .ref aMo_owner, .int Mo_loops, .ref aMo_open, .int Mo_steps, .int Mo_fault, .int Mo_place])), (aMo_names, .inl (cJ, 20, .inr (.inl Mo_names)))] s.heap.size = A at hD ⊢
  have hA : ∀ q : Nat, s.heap.size ≤ q → A q := fun q h => by rw [← hAe]; exact Or.inr h
  have hS : va_S A s.heap s.heap [] := va_S.rf
  have hl := lv_entry ([.ref aMo, .long p0]) (n := 4) (Nat.le_of_ble_eq_true rfl)
  have hfr : entryFrame m args 4 = entryFrame m ([.ref aMo, .long p0] : List Value).toArray 4 := by rw [hargs]
  rw [hfr, lg_entry_eq]
  generalize (lg_sl ([.ref aMo, .long p0]) ++ List.replicate (4 - (lg_sl ([.ref aMo, .long p0])).length) Slot.unset).toArray = ls at hl ⊢
  have hl : lv_has ls 4 [(0, .ref aMo), (1, .long p0)] := hl
  refine nameQ_ (fun Q hQ => ?_)
  have hP : va_P (dC, dI) vwCl [(aMo, .inr (11, [.ref aMo_text, .int Mo_length, .ref aMo_from, .ref aMo_to, .int Mo_words, .ref aMo_stack, .int Mo_height, .ref aMo_memory, .ref aMo_out, .int Mo_outs, .ref aMo_names, .ref aMo_starts, .ref aMo_sizes, .int Mo_defined, .ref aMo_kind, .ref aMo_what, .ref aMo_running, .ref aMo_at, .int Mo_deep, .ref aMo_limits, .ref aMo_counts, .ref aMo_owner, .int Mo_loops, .ref aMo_open, .int Mo_steps, .int Mo_fault, .int Mo_place])), (aMo_names, .inl (cJ, 20, .inr (.inl Mo_names)))] s.heap := hP
  have hj_7 : ∀ (n : Nat), ∀ (x1 : Int64) (x3 : Int32) (H : Heap) (locs : List Loc) (ls : Array Slot), fnX12_meant_7 Mo_names Mo_defined n x1 x3 = some rr → va_P (dC, dI) vwCl [(aMo, .inr (11, [.ref aMo_text, .int Mo_length, .ref aMo_from, .ref aMo_to, .int Mo_words, .ref aMo_stack, .int Mo_height, .ref aMo_memory, .ref aMo_out, .int Mo_outs, .ref aMo_names, .ref aMo_starts, .ref aMo_sizes, .int Mo_defined, .ref aMo_kind, .ref aMo_what, .ref aMo_running, .ref aMo_at, .int Mo_deep, .ref aMo_limits, .ref aMo_counts, .ref aMo_owner, .int Mo_loops, .ref aMo_open, .int Mo_steps, .int Mo_fault, .int Mo_place])), (aMo_names, .inl (cJ, 20, .inr (.inl Mo_names)))] H → va_D A [(aMo, .inr (11, [.ref aMo_text, .int Mo_length, .ref aMo_from, .ref aMo_to, .int Mo_words, .ref aMo_stack, .int Mo_height, .ref aMo_memory, .ref aMo_out, .int Mo_outs, .ref aMo_names, .ref aMo_starts, .ref aMo_sizes, .int Mo_defined, .ref aMo_kind, .ref aMo_what, .ref aMo_running, .ref aMo_at, .int Mo_deep, .ref aMo_limits, .ref aMo_counts, .ref aMo_owner, .int Mo_loops, .ref aMo_open, .int Mo_steps, .int Mo_fault, .int Mo_place])), (aMo_names, .inl (cJ, 20, .inr (.inl Mo_names)))] → va_S A s.heap H locs → lv_has ls 4 [(1, .long x1), (3, .int x3), (0, .ref aMo)] → W p l e rmX12_meant s m args below meth c H locs 0 0 Q (F0 m 7 ls []) := by
    intro n
    induction n with
    | zero =>
      intro x1 x3 H locs ls h
      cases h
    | succ n ih =>
      intro x1 x3 H locs ls h hP hD hS hl
      rw [fnX12_meant_7] at h
      refine lv_iload_n hx hb dX12_meant_7 rfl (lv_at hl 1 rfl) ?_
      refine lv_if_lt (tgt := 30) hx hb dX12_meant_8 (by decide) (fun c_1 => ?_) (fun c_1 => ?_)
      · have h := it_t c_1 h
        refine lv_iconst (v := (-1 : Int32)) hx hb dX12_meant_30 (by decide) ?_
        cases h
        rw [hQ]
        exact W.iret hx hb hr (fun t ht hW => ⟨⟨_, (), rfl, rfl, by rw [ht]; exact hP, va_K.moved hW.alike hK, hD⟩, hS.F ht⟩) hS.2.2 dX12_meant_31
      · have h := it_f c_1 h
        refine lv_aload_n hx hb dX12_meant_11 rfl (lv_at hl 2 rfl) ?_
        refine va_get (D := (dC, dI)) (ci := 11) (v := .ref aMo_names) (C := RX12) (T := TX12) (N := 27) hx hb hts (fun w h => List.mem_cons_of_mem _ (inX12 w h)) hown hK hP 0 rfl rfl 10 (by decide) (hts _ (List.mem_cons_of_mem _ mw_461)) (fun _ h9 => h9) rfl dX12_meant_12 ?_
        refine lv_iload_n hx hb dX12_meant_15 rfl (lv_at hl 1 rfl) ?_
        obtain ⟨x_2, hi_3, h⟩ := bd1_some h
        obtain ⟨hi_3, ex_4⟩ := ga_some hi_3
        refine va_lald hx hb hK hP 1 2 rfl rfl hi_3 dX12_meant_16 ?_
        rw [← ex_4]
        refine lv_lload_n hx hb dX12_meant_17 rfl (lv_at hl 0 rfl) ?_
        refine W.lcmp hx hb dX12_meant_18 ?_
        refine lv_if_ne (tgt := 24) hx hb dX12_meant_19 (by decide) (fun c_5 => ?_) (fun c_5 => ?_)
        · have h := it_f c_5 h
          refine lv_iinc (v := x3 + (-1 : Int32)) (lv' := [(3, .int (x3 + (-1 : Int32))), (1, .long x1), (0, .ref aMo)]) hx hb dX12_meant_24 hl (k := 1) rfl rfl (by decide) rfl (fun ls hl => ?_)
          refine lv_goto (tgt := 7) hx hb dX12_meant_27 (by decide) ?_
          exact ih x1 (x3 + (-1 : Int32)) _ _ _ h hP hD hS (lv_sub hl [1, 0, 2] rfl)
        · have h := it_t c_5 h
          refine lv_iload_n hx hb dX12_meant_22 rfl (lv_at hl 1 rfl) ?_
          cases h
          rw [hQ]
          exact W.iret hx hb hr (fun t ht hW => ⟨⟨_, (), rfl, rfl, by rw [ht]; exact hP, va_K.moved hW.alike hK, hD⟩, hS.F ht⟩) hS.2.2 dX12_meant_23
  unfold fnX12_meant at h
  refine lv_aload_n hx hb dX12_meant_0 rfl (lv_at hl 0 rfl) ?_
  refine va_get (D := (dC, dI)) (ci := 11) (v := .int Mo_defined) (C := RX12) (T := TX12) (N := 27) hx hb hts (fun w h => List.mem_cons_of_mem _ (inX12 w h)) hown hK hP 0 rfl rfl 13 (by decide) (hts _ (List.mem_cons_of_mem _ mw_462)) (fun _ h9 => h9) rfl dX12_meant_1 ?_
  refine lv_iconst (v := (1 : Int32)) hx hb dX12_meant_4 (by decide) ?_
  refine lv_isub hx hb dX12_meant_5 ?_
  refine lv_istore_n (lv' := [(3, .int (Mo_defined - (1 : Int32))), (0, .ref aMo), (1, .long p0)]) hx hb dX12_meant_6 rfl hl (by decide) rfl (fun ls hl => ?_)
  exact hj_7 fuel_ p0 (Mo_defined - (1 : Int32)) _ _ _ h hP hD hS (lv_sub hl [2, 0, 1] rfl)
abbrev rmX12_stop : Room := { frames := 0, cells := 0, slots := 0, locals := 0 }
set_option maxHeartbeats 4000000 in
set_option maxRecDepth 100000 in
theorem ctX12_stop (l : Launch) (dC : Nat → ClassId) (dI : Nat → Nat → Nat) (cI cC cJ : ClassId) (aMo aMo_text aMo_from aMo_to aMo_stack aMo_memory aMo_out aMo_names aMo_starts aMo_sizes aMo_kind aMo_what aMo_running aMo_at aMo_limits aMo_counts aMo_owner aMo_open : Nat) (sz : Nat) (Mo_length : Int32) (Mo_words : Int32) (Mo_height : Int32) (Mo_outs : Int32) (Mo_defined : Int32) (Mo_deep : Int32) (Mo_loops : Int32) (Mo_steps : Int32) (Mo_fault : Int32) (Mo_place : Int32) (p0 : Int32) (rr : Int32) (w_Mo_fault : Int32) (h : fnX12_stop Mo_fault p0 = some (rr, w_Mo_fault)) : Met l yX12_stop wsX12_stop rmX12_stop (va_Pc [.ref aMo, .int p0] (fun U => U.heap.size = sz ∧ va_P (dC, dI) vwCl [(aMo, .inr (11, [.ref aMo_text, .int Mo_length, .ref aMo_from, .ref aMo_to, .int Mo_words, .ref aMo_stack, .int Mo_height, .ref aMo_memory, .ref aMo_out, .int Mo_outs, .ref aMo_names, .ref aMo_starts, .ref aMo_sizes, .int Mo_defined, .ref aMo_kind, .ref aMo_what, .ref aMo_running, .ref aMo_at, .int Mo_deep, .ref aMo_limits, .ref aMo_counts, .ref aMo_owner, .int Mo_loops, .ref aMo_open, .int Mo_steps, .int Mo_fault, .int Mo_place]))] U.heap ∧ va_K (dC, dI) vwCl [(cI, .int), (cC, .char), (cJ, .long)] U ∧ va_D (fun _ => True) [(aMo, .inr (11, [.ref aMo_text, .int Mo_length, .ref aMo_from, .ref aMo_to, .int Mo_words, .ref aMo_stack, .int Mo_height, .ref aMo_memory, .ref aMo_out, .int Mo_outs, .ref aMo_names, .ref aMo_starts, .ref aMo_sizes, .int Mo_defined, .ref aMo_kind, .ref aMo_what, .ref aMo_running, .ref aMo_at, .int Mo_deep, .ref aMo_limits, .ref aMo_counts, .ref aMo_owner, .int Mo_loops, .ref aMo_open, .int Mo_steps, .int Mo_fault, .int Mo_place]))])) (va_Qi (fun r (_ : Unit) => r = rr) (fun _ t => va_P (dC, dI) vwCl [(aMo, .inr (11, [.ref aMo_text, .int Mo_length, .ref aMo_from, .ref aMo_to, .int Mo_words, .ref aMo_stack, .int Mo_height, .ref aMo_memory, .ref aMo_out, .int Mo_outs, .ref aMo_names, .ref aMo_starts, .ref aMo_sizes, .int Mo_defined, .ref aMo_kind, .ref aMo_what, .ref aMo_running, .ref aMo_at, .int Mo_deep, .ref aMo_limits, .ref aMo_counts, .ref aMo_owner, .int Mo_loops, .ref aMo_open, .int Mo_steps, .int w_Mo_fault, .int Mo_place]))] t.heap ∧ va_K (dC, dI) vwCl [(cI, .int), (cC, .char), (cJ, .long)] t ∧ va_D (va_A [(aMo, .inr (11, [.ref aMo_text, .int Mo_length, .ref aMo_from, .ref aMo_to, .int Mo_words, .ref aMo_stack, .int Mo_height, .ref aMo_memory, .ref aMo_out, .int Mo_outs, .ref aMo_names, .ref aMo_starts, .ref aMo_sizes, .int Mo_defined, .ref aMo_kind, .ref aMo_what, .ref aMo_running, .ref aMo_at, .int Mo_deep, .ref aMo_limits, .ref aMo_counts, .ref aMo_owner, .int Mo_loops, .ref aMo_open, .int Mo_steps, .int Mo_fault, .int Mo_place]))] sz) [(aMo, .inr (11, [.ref aMo_text, .int Mo_length, .ref aMo_from, .ref aMo_to, .int Mo_words, .ref aMo_stack, .int Mo_height, .ref aMo_memory, .ref aMo_out, .int Mo_outs, .ref aMo_names, .ref aMo_starts, .ref aMo_sizes, .int Mo_defined, .ref aMo_kind, .ref aMo_what, .ref aMo_running, .ref aMo_at, .int Mo_deep, .ref aMo_limits, .ref aMo_counts, .ref aMo_owner, .int Mo_loops, .ref aMo_open, .int Mo_steps, .int w_Mo_fault, .int Mo_place]))]) (va_A [(aMo, .inr (11, [.ref aMo_text, .int Mo_length, .ref aMo_from, .ref aMo_to, .int Mo_words, .ref aMo_stack, .int Mo_height, .ref aMo_memory, .ref aMo_out, .int Mo_outs, .ref aMo_names, .ref aMo_starts, .ref aMo_sizes, .int Mo_defined, .ref aMo_kind, .ref aMo_what, .ref aMo_running, .ref aMo_at, .int Mo_deep, .ref aMo_limits, .ref aMo_counts, .ref aMo_owner, .int Mo_loops, .ref aMo_open, .int Mo_steps, .int Mo_fault, .int Mo_place]))] sz)) 0 0 (va_A [(aMo, .inr (11, [.ref aMo_text, .int Mo_length, .ref aMo_from, .ref aMo_to, .int Mo_words, .ref aMo_stack, .int Mo_height, .ref aMo_memory, .ref aMo_out, .int Mo_outs, .ref aMo_names, .ref aMo_starts, .ref aMo_sizes, .int Mo_defined, .ref aMo_kind, .ref aMo_what, .ref aMo_running, .ref aMo_at, .int Mo_deep, .ref aMo_limits, .ref aMo_counts, .ref aMo_owner, .int Mo_loops, .ref aMo_open, .int Mo_steps, .int Mo_fault, .int Mo_place]))] sz) := by
  refine Met.ofW (cc := cX12_stop) (maxL := 2) (ret := (some .boolean)) (by decide) rfl ?_
  intro p e s m args below meth c s₁ B hml hv
  obtain ⟨hargs, hsz, hP, hK, hD0⟩ := hv
  have hx := B.exec
  have hb := B.bytes
  have hr := B.returns
  have hts := atoms_spec (ws := wsX12_stop) B.pre
  have hown : s.vm.findClass RX12 = some m.cls := findClass_of_methodNamed B.named
  have hlocks := B.notSynchronized
  subst hsz
  have hD := hD0.self (sz := s.heap.size)
  generalize hAe : va_A [(aMo, .inr (11, [.ref aMo_text, .int Mo_length, .ref aMo_from, .ref aMo_to, .int Mo_words, .ref aMo_stack, .int Mo_height, .ref aMo_memory, .ref aMo_out, .int Mo_outs, .ref aMo_names, .ref aMo_starts, .ref aMo_sizes, .int Mo_defined, .ref aMo_kind, .ref aMo_what, .ref aMo_running, .ref aMo_at, .int Mo_deep, .ref aMo_limits, .ref aMo_counts, .ref aMo_owner, .int Mo_loops, .ref aMo_open, .int Mo_steps, .int Mo_fault, .int Mo_place]))] s.heap.size = A at hD ⊢
  have hA : ∀ q : Nat, s.heap.size ≤ q → A q := fun q h => by rw [← hAe]; exact Or.inr h
  have hS : va_S A s.heap s.heap [] := va_S.rf
  have hl := lv_entry ([.ref aMo, .int p0]) (n := 2) (Nat.le_of_ble_eq_true rfl)
  have hfr : entryFrame m args 2 = entryFrame m ([.ref aMo, .int p0] : List Value).toArray 2 := by rw [hargs]
  rw [hfr, lg_entry_eq]
  generalize (lg_sl ([.ref aMo, .int p0]) ++ List.replicate (2 - (lg_sl ([.ref aMo, .int p0])).length) Slot.unset).toArray = ls at hl ⊢
  have hl : lv_has ls 2 [(0, .ref aMo), (1, .int p0)] := hl
  refine nameQ_ (fun Q hQ => ?_)
  unfold fnX12_stop at h
  refine lv_aload_n hx hb dX12_stop_0 rfl (lv_at hl 0 rfl) ?_
  refine lv_iload_n hx hb dX12_stop_1 rfl (lv_at hl 1 rfl) ?_
  refine va_put (D := (dC, dI)) (ci := 11) (v := .int p0) (ty := .int) (C := RX12) (T := TX12) (N := 27) hx hb hts (fun w h => List.mem_cons_of_mem _ (inX12 w h)) tyX12 tyX12_ok nmX12 hown hK hP hD hS 0 rfl rfl 25 (by decide) (hts _ (List.mem_cons_of_mem _ mw_463)) (fun _ h9 => h9) rfl (by decide +kernel) rfl rfl (Nat.le_of_ble_eq_true rfl) dX12_stop_2 (fun H locs hP hD hS => ?_)
  have hP : va_P (dC, dI) vwCl [(aMo, .inr (11, [.ref aMo_text, .int Mo_length, .ref aMo_from, .ref aMo_to, .int Mo_words, .ref aMo_stack, .int Mo_height, .ref aMo_memory, .ref aMo_out, .int Mo_outs, .ref aMo_names, .ref aMo_starts, .ref aMo_sizes, .int Mo_defined, .ref aMo_kind, .ref aMo_what, .ref aMo_running, .ref aMo_at, .int Mo_deep, .ref aMo_limits, .ref aMo_counts, .ref aMo_owner, .int Mo_loops, .ref aMo_open, .int Mo_steps, .int p0, .int Mo_place]))] H := hP
  have hD : va_D A [(aMo, .inr (11, [.ref aMo_text, .int Mo_length, .ref aMo_from, .ref aMo_to, .int Mo_words, .ref aMo_stack, .int Mo_height, .ref aMo_memory, .ref aMo_out, .int Mo_outs, .ref aMo_names, .ref aMo_starts, .ref aMo_sizes, .int Mo_defined, .ref aMo_kind, .ref aMo_what, .ref aMo_running, .ref aMo_at, .int Mo_deep, .ref aMo_limits, .ref aMo_counts, .ref aMo_owner, .int Mo_loops, .ref aMo_open, .int Mo_steps, .int p0, .int Mo_place]))] := hD
  refine lv_iconst (v := (0 : Int32)) hx hb dX12_stop_5 (by decide) ?_
  cases h
  rw [hQ]
  exact W.zret (ty := .boolean) hx hb hr rfl (fun t ht hW => ⟨⟨_, (), rfl, rfl, by rw [ht]; exact hP, va_K.moved hW.alike hK, hD⟩, hS.F ht⟩) hS.2.2 dX12_stop_6
abbrev rmX12_put : Room := { frames := 0, cells := 0, slots := 0, locals := 0 }
set_option maxHeartbeats 4000000 in
set_option maxRecDepth 100000 in
theorem ctX12_put (l : Launch) (dC : Nat → ClassId) (dI : Nat → Nat → Nat) (cI cC cJ : ClassId) (aMo aMo_text aMo_from aMo_to aMo_stack aMo_memory aMo_out aMo_names aMo_starts aMo_sizes aMo_kind aMo_what aMo_running aMo_at aMo_limits aMo_counts aMo_owner aMo_open : Nat) (sz : Nat) (Mo_length : Int32) (Mo_words : Int32) (Mo_stack : Nat → Int32) (Mo_height : Int32) (Mo_outs : Int32) (Mo_defined : Int32) (Mo_deep : Int32) (Mo_loops : Int32) (Mo_steps : Int32) (Mo_fault : Int32) (Mo_place : Int32) (p0 : Int64) (w_Mo_stack : Nat → Int32) (w_Mo_height : Int32) (h : fnX12_put Mo_stack Mo_height p0 = some (w_Mo_stack, w_Mo_height)) : Met l yX12_put wsX12_put rmX12_put (va_Pc [.ref aMo, .long p0] (fun U => U.heap.size = sz ∧ va_P (dC, dI) vwCl [(aMo, .inr (11, [.ref aMo_text, .int Mo_length, .ref aMo_from, .ref aMo_to, .int Mo_words, .ref aMo_stack, .int Mo_height, .ref aMo_memory, .ref aMo_out, .int Mo_outs, .ref aMo_names, .ref aMo_starts, .ref aMo_sizes, .int Mo_defined, .ref aMo_kind, .ref aMo_what, .ref aMo_running, .ref aMo_at, .int Mo_deep, .ref aMo_limits, .ref aMo_counts, .ref aMo_owner, .int Mo_loops, .ref aMo_open, .int Mo_steps, .int Mo_fault, .int Mo_place])), (aMo_stack, .inl (cI, 33, .inl Mo_stack))] U.heap ∧ va_K (dC, dI) vwCl [(cI, .int), (cC, .char), (cJ, .long)] U ∧ va_D (fun _ => True) [(aMo, .inr (11, [.ref aMo_text, .int Mo_length, .ref aMo_from, .ref aMo_to, .int Mo_words, .ref aMo_stack, .int Mo_height, .ref aMo_memory, .ref aMo_out, .int Mo_outs, .ref aMo_names, .ref aMo_starts, .ref aMo_sizes, .int Mo_defined, .ref aMo_kind, .ref aMo_what, .ref aMo_running, .ref aMo_at, .int Mo_deep, .ref aMo_limits, .ref aMo_counts, .ref aMo_owner, .int Mo_loops, .ref aMo_open, .int Mo_steps, .int Mo_fault, .int Mo_place])), (aMo_stack, .inl (cI, 33, .inl Mo_stack))])) (va_Qv (fun (_ : Unit) => True) (fun _ t => va_P (dC, dI) vwCl [(aMo, .inr (11, [.ref aMo_text, .int Mo_length, .ref aMo_from, .ref aMo_to, .int Mo_words, .ref aMo_stack, .int w_Mo_height, .ref aMo_memory, .ref aMo_out, .int Mo_outs, .ref aMo_names, .ref aMo_starts, .ref aMo_sizes, .int Mo_defined, .ref aMo_kind, .ref aMo_what, .ref aMo_running, .ref aMo_at, .int Mo_deep, .ref aMo_limits, .ref aMo_counts, .ref aMo_owner, .int Mo_loops, .ref aMo_open, .int Mo_steps, .int Mo_fault, .int Mo_place])), (aMo_stack, .inl (cI, 33, .inl w_Mo_stack))] t.heap ∧ va_K (dC, dI) vwCl [(cI, .int), (cC, .char), (cJ, .long)] t ∧ va_D (va_A [(aMo, .inr (11, [.ref aMo_text, .int Mo_length, .ref aMo_from, .ref aMo_to, .int Mo_words, .ref aMo_stack, .int Mo_height, .ref aMo_memory, .ref aMo_out, .int Mo_outs, .ref aMo_names, .ref aMo_starts, .ref aMo_sizes, .int Mo_defined, .ref aMo_kind, .ref aMo_what, .ref aMo_running, .ref aMo_at, .int Mo_deep, .ref aMo_limits, .ref aMo_counts, .ref aMo_owner, .int Mo_loops, .ref aMo_open, .int Mo_steps, .int Mo_fault, .int Mo_place])), (aMo_stack, .inl (cI, 33, .inl Mo_stack))] sz) [(aMo, .inr (11, [.ref aMo_text, .int Mo_length, .ref aMo_from, .ref aMo_to, .int Mo_words, .ref aMo_stack, .int w_Mo_height, .ref aMo_memory, .ref aMo_out, .int Mo_outs, .ref aMo_names, .ref aMo_starts, .ref aMo_sizes, .int Mo_defined, .ref aMo_kind, .ref aMo_what, .ref aMo_running, .ref aMo_at, .int Mo_deep, .ref aMo_limits, .ref aMo_counts, .ref aMo_owner, .int Mo_loops, .ref aMo_open, .int Mo_steps, .int Mo_fault, .int Mo_place])), (aMo_stack, .inl (cI, 33, .inl w_Mo_stack))]) (va_A [(aMo, .inr (11, [.ref aMo_text, .int Mo_length, .ref aMo_from, .ref aMo_to, .int Mo_words, .ref aMo_stack, .int Mo_height, .ref aMo_memory, .ref aMo_out, .int Mo_outs, .ref aMo_names, .ref aMo_starts, .ref aMo_sizes, .int Mo_defined, .ref aMo_kind, .ref aMo_what, .ref aMo_running, .ref aMo_at, .int Mo_deep, .ref aMo_limits, .ref aMo_counts, .ref aMo_owner, .int Mo_loops, .ref aMo_open, .int Mo_steps, .int Mo_fault, .int Mo_place])), (aMo_stack, .inl (cI, 33, .inl Mo_stack))] sz)) 0 0 (va_A [(aMo, .inr (11, [.ref aMo_text, .int Mo_length, .ref aMo_from, .ref aMo_to, .int Mo_words, .ref aMo_stack, .int Mo_height, .ref aMo_memory, .ref aMo_out, .int Mo_outs, .ref aMo_names, .ref aMo_starts, .ref aMo_sizes, .int Mo_defined, .ref aMo_kind, .ref aMo_what, .ref aMo_running, .ref aMo_at, .int Mo_deep, .ref aMo_limits, .ref aMo_counts, .ref aMo_owner, .int Mo_loops, .ref aMo_open, .int Mo_steps, .int Mo_fault, .int Mo_place])), (aMo_stack, .inl (cI, 33, .inl Mo_stack))] sz) := by
  refine Met.ofW (cc := cX12_put) (maxL := 3) (ret := none) (by decide) rfl ?_
  intro p e s m args below meth c s₁ B hml hv
  obtain ⟨hargs, hsz, hP, hK, hD0⟩ := hv
  have hx := B.exec
  have hb := B.bytes
  have hr := B.returns
  have hts := atoms_spec (ws := wsX12_put) B.pre
  have hown : s.vm.findClass RX12 = some m.cls := findClass_of_methodNamed B.named
  have hlocks := B.notSynchronized
  subst hsz
  have hD := hD0.self (sz := s.heap.size)
  generalize hAe : va_A [(aMo, .inr (11, [.ref aMo_text, .int Mo_length, .ref aMo_from, .ref aMo_to, .int Mo_words, .ref aMo_stack, .int Mo_height, .ref aMo_memory, .ref aMo_out, .int Mo_outs, .ref aMo_names, .ref aMo_starts, .ref aMo_sizes, .int Mo_defined, .ref aMo_kind, .ref aMo_what, .ref aMo_running, .ref aMo_at, .int Mo_deep, .ref aMo_limits, .ref aMo_counts, .ref aMo_owner, .int Mo_loops, .ref aMo_open, .int Mo_steps, .int Mo_fault, .int Mo_place])), (aMo_stack, .inl (cI, 33, .inl Mo_stack))] s.heap.size = A at hD ⊢
  have hA : ∀ q : Nat, s.heap.size ≤ q → A q := fun q h => by rw [← hAe]; exact Or.inr h
  have hS : va_S A s.heap s.heap [] := va_S.rf
  have hl := lv_entry ([.ref aMo, .long p0]) (n := 3) (Nat.le_of_ble_eq_true rfl)
  have hfr : entryFrame m args 3 = entryFrame m ([.ref aMo, .long p0] : List Value).toArray 3 := by rw [hargs]
  rw [hfr, lg_entry_eq]
  generalize (lg_sl ([.ref aMo, .long p0]) ++ List.replicate (3 - (lg_sl ([.ref aMo, .long p0])).length) Slot.unset).toArray = ls at hl ⊢
  have hl : lv_has ls 3 [(0, .ref aMo), (1, .long p0)] := hl
  refine nameQ_ (fun Q hQ => ?_)
  unfold fnX12_put at h
  refine lv_aload_n hx hb dX12_put_0 rfl (lv_at hl 0 rfl) ?_
  refine va_get (D := (dC, dI)) (ci := 11) (v := .ref aMo_stack) (C := RX12) (T := TX12) (N := 27) hx hb hts (fun w h => List.mem_cons_of_mem _ (inX12 w h)) hown hK hP 0 rfl rfl 5 (by decide) (hts _ (List.mem_cons_of_mem _ mw_464)) (fun _ h9 => h9) rfl dX12_put_1 ?_
  refine lv_aload_n hx hb dX12_put_4 rfl (lv_at hl 0 rfl) ?_
  refine va_get (D := (dC, dI)) (ci := 11) (v := .int Mo_height) (C := RX12) (T := TX12) (N := 27) hx hb hts (fun w h => List.mem_cons_of_mem _ (inX12 w h)) hown hK hP 0 rfl rfl 6 (by decide) (hts _ (List.mem_cons_of_mem _ mw_465)) (fun _ h9 => h9) rfl dX12_put_5 ?_
  refine lv_lload_n hx hb dX12_put_8 rfl (lv_at hl 1 rfl) ?_
  refine lv_l2i (v := p0.toInt32) hx hb dX12_put_9 rfl ?_
  obtain ⟨f_1, hi_2, h⟩ := bd1_some h
  obtain ⟨hi_2, ex_3⟩ := sa_some hi_2
  refine va_iast hx hb hK hP hD hS 1 0 rfl rfl hi_2 dX12_put_10 (fun H locs hP hD hS => ?_)
  rw [← ex_3] at hP hD
  have hP : va_P (dC, dI) vwCl [(aMo, .inr (11, [.ref aMo_text, .int Mo_length, .ref aMo_from, .ref aMo_to, .int Mo_words, .ref aMo_stack, .int Mo_height, .ref aMo_memory, .ref aMo_out, .int Mo_outs, .ref aMo_names, .ref aMo_starts, .ref aMo_sizes, .int Mo_defined, .ref aMo_kind, .ref aMo_what, .ref aMo_running, .ref aMo_at, .int Mo_deep, .ref aMo_limits, .ref aMo_counts, .ref aMo_owner, .int Mo_loops, .ref aMo_open, .int Mo_steps, .int Mo_fault, .int Mo_place])), (aMo_stack, .inl (cI, 33, .inl f_1))] H := hP
  have hD : va_D A [(aMo, .inr (11, [.ref aMo_text, .int Mo_length, .ref aMo_from, .ref aMo_to, .int Mo_words, .ref aMo_stack, .int Mo_height, .ref aMo_memory, .ref aMo_out, .int Mo_outs, .ref aMo_names, .ref aMo_starts, .ref aMo_sizes, .int Mo_defined, .ref aMo_kind, .ref aMo_what, .ref aMo_running, .ref aMo_at, .int Mo_deep, .ref aMo_limits, .ref aMo_counts, .ref aMo_owner, .int Mo_loops, .ref aMo_open, .int Mo_steps, .int Mo_fault, .int Mo_place])), (aMo_stack, .inl (cI, 33, .inl f_1))] := hD
  refine lv_aload_n hx hb dX12_put_11 rfl (lv_at hl 0 rfl) ?_
  refine lv_aload_n hx hb dX12_put_12 rfl (lv_at hl 0 rfl) ?_
  refine va_get (D := (dC, dI)) (ci := 11) (v := .int Mo_height) (C := RX12) (T := TX12) (N := 27) hx hb hts (fun w h => List.mem_cons_of_mem _ (inX12 w h)) hown hK hP 0 rfl rfl 6 (by decide) (hts _ (List.mem_cons_of_mem _ mw_465)) (fun _ h9 => h9) rfl dX12_put_13 ?_
  refine lv_iconst (v := (1 : Int32)) hx hb dX12_put_16 (by decide) ?_
  refine lv_iadd hx hb dX12_put_17 ?_
  refine va_put (D := (dC, dI)) (ci := 11) (v := .int (Mo_height + (1 : Int32))) (ty := .int) (C := RX12) (T := TX12) (N := 27) hx hb hts (fun w h => List.mem_cons_of_mem _ (inX12 w h)) tyX12 tyX12_ok nmX12 hown hK hP hD hS 0 rfl rfl 6 (by decide) (hts _ (List.mem_cons_of_mem _ mw_465)) (fun _ h9 => h9) rfl (by decide +kernel) rfl rfl (Nat.le_of_ble_eq_true rfl) dX12_put_18 (fun H locs hP hD hS => ?_)
  have hP : va_P (dC, dI) vwCl [(aMo, .inr (11, [.ref aMo_text, .int Mo_length, .ref aMo_from, .ref aMo_to, .int Mo_words, .ref aMo_stack, .int (Mo_height + (1 : Int32)), .ref aMo_memory, .ref aMo_out, .int Mo_outs, .ref aMo_names, .ref aMo_starts, .ref aMo_sizes, .int Mo_defined, .ref aMo_kind, .ref aMo_what, .ref aMo_running, .ref aMo_at, .int Mo_deep, .ref aMo_limits, .ref aMo_counts, .ref aMo_owner, .int Mo_loops, .ref aMo_open, .int Mo_steps, .int Mo_fault, .int Mo_place])), (aMo_stack, .inl (cI, 33, .inl f_1))] H := hP
  have hD : va_D A [(aMo, .inr (11, [.ref aMo_text, .int Mo_length, .ref aMo_from, .ref aMo_to, .int Mo_words, .ref aMo_stack, .int (Mo_height + (1 : Int32)), .ref aMo_memory, .ref aMo_out, .int Mo_outs, .ref aMo_names, .ref aMo_starts, .ref aMo_sizes, .int Mo_defined, .ref aMo_kind, .ref aMo_what, .ref aMo_running, .ref aMo_at, .int Mo_deep, .ref aMo_limits, .ref aMo_counts, .ref aMo_owner, .int Mo_loops, .ref aMo_open, .int Mo_steps, .int Mo_fault, .int Mo_place])), (aMo_stack, .inl (cI, 33, .inl f_1))] := hD
  cases h
  rw [hQ]
  exact W.vret hx hb hr (fun t ht hW => ⟨⟨(), rfl, trivial, by rw [ht]; exact hP, va_K.moved hW.alike hK, hD⟩, hS.F ht⟩) hS.2.2 dX12_put_21
abbrev rmX12_takes : Room := { frames := 0, cells := 0, slots := 0, locals := 0 }
set_option maxHeartbeats 4000000 in
set_option maxRecDepth 100000 in
theorem ctX12_takes (l : Launch) (dC : Nat → ClassId) (dI : Nat → Nat → Nat) (cI cC cJ : ClassId) (sz : Nat)  (p0 : Int32) (rr : Int32)  (h : fnX12_takes  p0 = some rr) : Met l yX12_takes wsX12_takes rmX12_takes (va_Pc [.int p0] (fun U => U.heap.size = sz ∧ va_P (dC, dI) vwCl [] U.heap ∧ va_K (dC, dI) vwCl [(cI, .int), (cC, .char), (cJ, .long)] U ∧ va_D (fun _ => True) [])) (va_Qi (fun r (_ : Unit) => r = rr) (fun _ t => va_P (dC, dI) vwCl [] t.heap ∧ va_K (dC, dI) vwCl [(cI, .int), (cC, .char), (cJ, .long)] t ∧ va_D (va_A [] sz) []) (va_A [] sz)) 0 0 (va_A [] sz) := by
  refine Met.ofW (cc := cX12_takes) (maxL := 1) (ret := (some .int)) (by decide) rfl ?_
  intro p e s m args below meth c s₁ B hml hv
  obtain ⟨hargs, hsz, hP, hK, hD0⟩ := hv
  have hx := B.exec
  have hb := B.bytes
  have hr := B.returns
  have hts := atoms_spec (ws := wsX12_takes) B.pre
  have hown : s.vm.findClass RX12 = some m.cls := findClass_of_methodNamed B.named
  have hlocks := B.notSynchronized
  subst hsz
  have hD := hD0.self (sz := s.heap.size)
  generalize hAe : va_A [] s.heap.size = A at hD ⊢
  have hA : ∀ q : Nat, s.heap.size ≤ q → A q := fun q h => by rw [← hAe]; exact Or.inr h
  have hS : va_S A s.heap s.heap [] := va_S.rf
  have hl := lv_entry ([.int p0]) (n := 1) (Nat.le_of_ble_eq_true rfl)
  have hfr : entryFrame m args 1 = entryFrame m ([.int p0] : List Value).toArray 1 := by rw [hargs]
  rw [hfr, lg_entry_eq]
  generalize (lg_sl ([.int p0]) ++ List.replicate (1 - (lg_sl ([.int p0])).length) Slot.unset).toArray = ls at hl ⊢
  have hl : lv_has ls 1 [(0, .int p0)] := hl
  refine nameQ_ (fun Q hQ => ?_)
  unfold fnX12_takes at h
  refine lv_iload_n hx hb dX12_takes_0 rfl (lv_at hl 0 rfl) ?_
  refine lv_bipush (v := (8 : Int32)) hx hb dX12_takes_1 (by decide) ?_
  refine lv_icmp_ne (tgt := 8) hx hb dX12_takes_3 (by decide) (fun c_1 => ?_) (fun c_1 => ?_)
  · have h := it_f c_1 h
    refine lv_iload_n hx hb dX12_takes_8 rfl (lv_at hl 0 rfl) ?_
    refine lv_iconst (v := (4 : Int32)) hx hb dX12_takes_9 (by decide) ?_
    refine lv_icmp_ne (tgt := 15) hx hb dX12_takes_10 (by decide) (fun c_2 => ?_) (fun c_2 => ?_)
    · have h := it_f c_2 h
      refine lv_iload_n hx hb dX12_takes_15 rfl (lv_at hl 0 rfl) ?_
      refine lv_if_eq (tgt := 72) hx hb dX12_takes_16 (by decide) (fun c_3 => ?_) (fun c_3 => ?_)
      · have h := it_t c_3 h
        refine lv_iconst (v := (1 : Int32)) hx hb dX12_takes_72 (by decide) ?_
        refine lv_goto (tgt := 77) hx hb dX12_takes_73 (by decide) ?_
        cases h
        rw [hQ]
        exact W.iret hx hb hr (fun t ht hW => ⟨⟨_, (), rfl, rfl, by rw [ht]; exact hP, va_K.moved hW.alike hK, hD⟩, hS.F ht⟩) hS.2.2 dX12_takes_77
      · have h := it_f c_3 h
        refine lv_iload_n hx hb dX12_takes_19 rfl (lv_at hl 0 rfl) ?_
        refine lv_iconst (v := (1 : Int32)) hx hb dX12_takes_20 (by decide) ?_
        refine lv_icmp_eq (tgt := 72) hx hb dX12_takes_21 (by decide) (fun c_4 => ?_) (fun c_4 => ?_)
        · have h := it_t c_4 h
          refine lv_iconst (v := (1 : Int32)) hx hb dX12_takes_72 (by decide) ?_
          refine lv_goto (tgt := 77) hx hb dX12_takes_73 (by decide) ?_
          cases h
          rw [hQ]
          exact W.iret hx hb hr (fun t ht hW => ⟨⟨_, (), rfl, rfl, by rw [ht]; exact hP, va_K.moved hW.alike hK, hD⟩, hS.F ht⟩) hS.2.2 dX12_takes_77
        · have h := it_f c_4 h
          refine lv_iload_n hx hb dX12_takes_24 rfl (lv_at hl 0 rfl) ?_
          refine lv_bipush (v := (7 : Int32)) hx hb dX12_takes_25 (by decide) ?_
          refine lv_icmp_eq (tgt := 72) hx hb dX12_takes_27 (by decide) (fun c_5 => ?_) (fun c_5 => ?_)
          · have h := it_t c_5 h
            refine lv_iconst (v := (1 : Int32)) hx hb dX12_takes_72 (by decide) ?_
            refine lv_goto (tgt := 77) hx hb dX12_takes_73 (by decide) ?_
            cases h
            rw [hQ]
            exact W.iret hx hb hr (fun t ht hW => ⟨⟨_, (), rfl, rfl, by rw [ht]; exact hP, va_K.moved hW.alike hK, hD⟩, hS.F ht⟩) hS.2.2 dX12_takes_77
          · have h := it_f c_5 h
            refine lv_iload_n hx hb dX12_takes_30 rfl (lv_at hl 0 rfl) ?_
            refine lv_bipush (v := (14 : Int32)) hx hb dX12_takes_31 (by decide) ?_
            refine lv_icmp_eq (tgt := 72) hx hb dX12_takes_33 (by decide) (fun c_6 => ?_) (fun c_6 => ?_)
            · have h := it_t c_6 h
              refine lv_iconst (v := (1 : Int32)) hx hb dX12_takes_72 (by decide) ?_
              refine lv_goto (tgt := 77) hx hb dX12_takes_73 (by decide) ?_
              cases h
              rw [hQ]
              exact W.iret hx hb hr (fun t ht hW => ⟨⟨_, (), rfl, rfl, by rw [ht]; exact hP, va_K.moved hW.alike hK, hD⟩, hS.F ht⟩) hS.2.2 dX12_takes_77
            · have h := it_f c_6 h
              refine lv_iload_n hx hb dX12_takes_36 rfl (lv_at hl 0 rfl) ?_
              refine lv_bipush (v := (15 : Int32)) hx hb dX12_takes_37 (by decide) ?_
              refine lv_icmp_eq (tgt := 72) hx hb dX12_takes_39 (by decide) (fun c_7 => ?_) (fun c_7 => ?_)
              · have h := it_t c_7 h
                refine lv_iconst (v := (1 : Int32)) hx hb dX12_takes_72 (by decide) ?_
                refine lv_goto (tgt := 77) hx hb dX12_takes_73 (by decide) ?_
                cases h
                rw [hQ]
                exact W.iret hx hb hr (fun t ht hW => ⟨⟨_, (), rfl, rfl, by rw [ht]; exact hP, va_K.moved hW.alike hK, hD⟩, hS.F ht⟩) hS.2.2 dX12_takes_77
              · have h := it_f c_7 h
                refine lv_iload_n hx hb dX12_takes_42 rfl (lv_at hl 0 rfl) ?_
                refine lv_bipush (v := (21 : Int32)) hx hb dX12_takes_43 (by decide) ?_
                refine lv_icmp_eq (tgt := 72) hx hb dX12_takes_45 (by decide) (fun c_8 => ?_) (fun c_8 => ?_)
                · have h := it_t c_8 h
                  refine lv_iconst (v := (1 : Int32)) hx hb dX12_takes_72 (by decide) ?_
                  refine lv_goto (tgt := 77) hx hb dX12_takes_73 (by decide) ?_
                  cases h
                  rw [hQ]
                  exact W.iret hx hb hr (fun t ht hW => ⟨⟨_, (), rfl, rfl, by rw [ht]; exact hP, va_K.moved hW.alike hK, hD⟩, hS.F ht⟩) hS.2.2 dX12_takes_77
                · have h := it_f c_8 h
                  refine lv_iload_n hx hb dX12_takes_48 rfl (lv_at hl 0 rfl) ?_
                  refine lv_bipush (v := (27 : Int32)) hx hb dX12_takes_49 (by decide) ?_
                  refine lv_icmp_eq (tgt := 72) hx hb dX12_takes_51 (by decide) (fun c_9 => ?_) (fun c_9 => ?_)
                  · have h := it_t c_9 h
                    refine lv_iconst (v := (1 : Int32)) hx hb dX12_takes_72 (by decide) ?_
                    refine lv_goto (tgt := 77) hx hb dX12_takes_73 (by decide) ?_
                    cases h
                    rw [hQ]
                    exact W.iret hx hb hr (fun t ht hW => ⟨⟨_, (), rfl, rfl, by rw [ht]; exact hP, va_K.moved hW.alike hK, hD⟩, hS.F ht⟩) hS.2.2 dX12_takes_77
                  · have h := it_f c_9 h
                    refine lv_iload_n hx hb dX12_takes_54 rfl (lv_at hl 0 rfl) ?_
                    refine lv_bipush (v := (28 : Int32)) hx hb dX12_takes_55 (by decide) ?_
                    refine lv_icmp_eq (tgt := 72) hx hb dX12_takes_57 (by decide) (fun c_10 => ?_) (fun c_10 => ?_)
                    · have h := it_t c_10 h
                      refine lv_iconst (v := (1 : Int32)) hx hb dX12_takes_72 (by decide) ?_
                      refine lv_goto (tgt := 77) hx hb dX12_takes_73 (by decide) ?_
                      cases h
                      rw [hQ]
                      exact W.iret hx hb hr (fun t ht hW => ⟨⟨_, (), rfl, rfl, by rw [ht]; exact hP, va_K.moved hW.alike hK, hD⟩, hS.F ht⟩) hS.2.2 dX12_takes_77
                    · have h := it_f c_10 h
                      refine lv_iload_n hx hb dX12_takes_60 rfl (lv_at hl 0 rfl) ?_
                      refine lv_bipush (v := (29 : Int32)) hx hb dX12_takes_61 (by decide) ?_
                      refine lv_icmp_eq (tgt := 72) hx hb dX12_takes_63 (by decide) (fun c_11 => ?_) (fun c_11 => ?_)
                      · have h := it_t c_11 h
                        refine lv_iconst (v := (1 : Int32)) hx hb dX12_takes_72 (by decide) ?_
                        refine lv_goto (tgt := 77) hx hb dX12_takes_73 (by decide) ?_
                        cases h
                        rw [hQ]
                        exact W.iret hx hb hr (fun t ht hW => ⟨⟨_, (), rfl, rfl, by rw [ht]; exact hP, va_K.moved hW.alike hK, hD⟩, hS.F ht⟩) hS.2.2 dX12_takes_77
                      · have h := it_f c_11 h
                        refine lv_iload_n hx hb dX12_takes_66 rfl (lv_at hl 0 rfl) ?_
                        refine lv_bipush (v := (32 : Int32)) hx hb dX12_takes_67 (by decide) ?_
                        refine lv_icmp_ne (tgt := 76) hx hb dX12_takes_69 (by decide) (fun c_12 => ?_) (fun c_12 => ?_)
                        · have h := it_f c_12 h
                          refine lv_iconst (v := (2 : Int32)) hx hb dX12_takes_76 (by decide) ?_
                          cases h
                          rw [hQ]
                          exact W.iret hx hb hr (fun t ht hW => ⟨⟨_, (), rfl, rfl, by rw [ht]; exact hP, va_K.moved hW.alike hK, hD⟩, hS.F ht⟩) hS.2.2 dX12_takes_77
                        · have h := it_t c_12 h
                          refine lv_iconst (v := (1 : Int32)) hx hb dX12_takes_72 (by decide) ?_
                          refine lv_goto (tgt := 77) hx hb dX12_takes_73 (by decide) ?_
                          cases h
                          rw [hQ]
                          exact W.iret hx hb hr (fun t ht hW => ⟨⟨_, (), rfl, rfl, by rw [ht]; exact hP, va_K.moved hW.alike hK, hD⟩, hS.F ht⟩) hS.2.2 dX12_takes_77
    · have h := it_t c_2 h
      refine lv_iconst (v := (3 : Int32)) hx hb dX12_takes_13 (by decide) ?_
      cases h
      rw [hQ]
      exact W.iret hx hb hr (fun t ht hW => ⟨⟨_, (), rfl, rfl, by rw [ht]; exact hP, va_K.moved hW.alike hK, hD⟩, hS.F ht⟩) hS.2.2 dX12_takes_14
  · have h := it_t c_1 h
    refine lv_iconst (v := (0 : Int32)) hx hb dX12_takes_6 (by decide) ?_
    cases h
    rw [hQ]
    exact W.iret hx hb hr (fun t ht hW => ⟨⟨_, (), rfl, rfl, by rw [ht]; exact hP, va_K.moved hW.alike hK, hD⟩, hS.F ht⟩) hS.2.2 dX12_takes_7
abbrev rmX12_grows : Room := { frames := 0, cells := 0, slots := 0, locals := 0 }
set_option maxHeartbeats 4000000 in
set_option maxRecDepth 100000 in
theorem ctX12_grows (l : Launch) (dC : Nat → ClassId) (dI : Nat → Nat → Nat) (cI cC cJ : ClassId) (aMo aMo_text aMo_from aMo_to aMo_stack aMo_memory aMo_out aMo_names aMo_starts aMo_sizes aMo_kind aMo_what aMo_running aMo_at aMo_limits aMo_counts aMo_owner aMo_open : Nat) (sz : Nat) (Mo_length : Int32) (Mo_words : Int32) (Mo_stack : Nat → Int32) (Mo_height : Int32) (Mo_outs : Int32) (Mo_defined : Int32) (Mo_deep : Int32) (Mo_loops : Int32) (Mo_steps : Int32) (Mo_fault : Int32) (Mo_place : Int32) (p0 : Int32) (rr : Int32)  (h : fnX12_grows Mo_stack Mo_height p0 = some rr) : Met l yX12_grows wsX12_grows rmX12_grows (va_Pc [.ref aMo, .int p0] (fun U => U.heap.size = sz ∧ va_P (dC, dI) vwCl [(aMo, .inr (11, [.ref aMo_text, .int Mo_length, .ref aMo_from, .ref aMo_to, .int Mo_words, .ref aMo_stack, .int Mo_height, .ref aMo_memory, .ref aMo_out, .int Mo_outs, .ref aMo_names, .ref aMo_starts, .ref aMo_sizes, .int Mo_defined, .ref aMo_kind, .ref aMo_what, .ref aMo_running, .ref aMo_at, .int Mo_deep, .ref aMo_limits, .ref aMo_counts, .ref aMo_owner, .int Mo_loops, .ref aMo_open, .int Mo_steps, .int Mo_fault, .int Mo_place])), (aMo_stack, .inl (cI, 33, .inl Mo_stack))] U.heap ∧ va_K (dC, dI) vwCl [(cI, .int), (cC, .char), (cJ, .long)] U ∧ va_D (fun _ => True) [(aMo, .inr (11, [.ref aMo_text, .int Mo_length, .ref aMo_from, .ref aMo_to, .int Mo_words, .ref aMo_stack, .int Mo_height, .ref aMo_memory, .ref aMo_out, .int Mo_outs, .ref aMo_names, .ref aMo_starts, .ref aMo_sizes, .int Mo_defined, .ref aMo_kind, .ref aMo_what, .ref aMo_running, .ref aMo_at, .int Mo_deep, .ref aMo_limits, .ref aMo_counts, .ref aMo_owner, .int Mo_loops, .ref aMo_open, .int Mo_steps, .int Mo_fault, .int Mo_place])), (aMo_stack, .inl (cI, 33, .inl Mo_stack))])) (va_Qi (fun r (_ : Unit) => r = rr) (fun _ t => va_P (dC, dI) vwCl [(aMo, .inr (11, [.ref aMo_text, .int Mo_length, .ref aMo_from, .ref aMo_to, .int Mo_words, .ref aMo_stack, .int Mo_height, .ref aMo_memory, .ref aMo_out, .int Mo_outs, .ref aMo_names, .ref aMo_starts, .ref aMo_sizes, .int Mo_defined, .ref aMo_kind, .ref aMo_what, .ref aMo_running, .ref aMo_at, .int Mo_deep, .ref aMo_limits, .ref aMo_counts, .ref aMo_owner, .int Mo_loops, .ref aMo_open, .int Mo_steps, .int Mo_fault, .int Mo_place])), (aMo_stack, .inl (cI, 33, .inl Mo_stack))] t.heap ∧ va_K (dC, dI) vwCl [(cI, .int), (cC, .char), (cJ, .long)] t ∧ va_D (va_A [(aMo, .inr (11, [.ref aMo_text, .int Mo_length, .ref aMo_from, .ref aMo_to, .int Mo_words, .ref aMo_stack, .int Mo_height, .ref aMo_memory, .ref aMo_out, .int Mo_outs, .ref aMo_names, .ref aMo_starts, .ref aMo_sizes, .int Mo_defined, .ref aMo_kind, .ref aMo_what, .ref aMo_running, .ref aMo_at, .int Mo_deep, .ref aMo_limits, .ref aMo_counts, .ref aMo_owner, .int Mo_loops, .ref aMo_open, .int Mo_steps, .int Mo_fault, .int Mo_place])), (aMo_stack, .inl (cI, 33, .inl Mo_stack))] sz) [(aMo, .inr (11, [.ref aMo_text, .int Mo_length, .ref aMo_from, .ref aMo_to, .int Mo_words, .ref aMo_stack, .int Mo_height, .ref aMo_memory, .ref aMo_out, .int Mo_outs, .ref aMo_names, .ref aMo_starts, .ref aMo_sizes, .int Mo_defined, .ref aMo_kind, .ref aMo_what, .ref aMo_running, .ref aMo_at, .int Mo_deep, .ref aMo_limits, .ref aMo_counts, .ref aMo_owner, .int Mo_loops, .ref aMo_open, .int Mo_steps, .int Mo_fault, .int Mo_place])), (aMo_stack, .inl (cI, 33, .inl Mo_stack))]) (va_A [(aMo, .inr (11, [.ref aMo_text, .int Mo_length, .ref aMo_from, .ref aMo_to, .int Mo_words, .ref aMo_stack, .int Mo_height, .ref aMo_memory, .ref aMo_out, .int Mo_outs, .ref aMo_names, .ref aMo_starts, .ref aMo_sizes, .int Mo_defined, .ref aMo_kind, .ref aMo_what, .ref aMo_running, .ref aMo_at, .int Mo_deep, .ref aMo_limits, .ref aMo_counts, .ref aMo_owner, .int Mo_loops, .ref aMo_open, .int Mo_steps, .int Mo_fault, .int Mo_place])), (aMo_stack, .inl (cI, 33, .inl Mo_stack))] sz)) 0 0 (va_A [(aMo, .inr (11, [.ref aMo_text, .int Mo_length, .ref aMo_from, .ref aMo_to, .int Mo_words, .ref aMo_stack, .int Mo_height, .ref aMo_memory, .ref aMo_out, .int Mo_outs, .ref aMo_names, .ref aMo_starts, .ref aMo_sizes, .int Mo_defined, .ref aMo_kind, .ref aMo_what, .ref aMo_running, .ref aMo_at, .int Mo_deep, .ref aMo_limits, .ref aMo_counts, .ref aMo_owner, .int Mo_loops, .ref aMo_open, .int Mo_steps, .int Mo_fault, .int Mo_place])), (aMo_stack, .inl (cI, 33, .inl Mo_stack))] sz) := by
  refine Met.ofW (cc := cX12_grows) (maxL := 2) (ret := (some .boolean)) (by decide) rfl ?_
  intro p e s m args below meth c s₁ B hml hv
  obtain ⟨hargs, hsz, hP, hK, hD0⟩ := hv
  have hx := B.exec
  have hb := B.bytes
  have hr := B.returns
  have hts := atoms_spec (ws := wsX12_grows) B.pre
  have hown : s.vm.findClass RX12 = some m.cls := findClass_of_methodNamed B.named
  have hlocks := B.notSynchronized
  subst hsz
  have hD := hD0.self (sz := s.heap.size)
  generalize hAe : va_A [(aMo, .inr (11, [.ref aMo_text, .int Mo_length, .ref aMo_from, .ref aMo_to, .int Mo_words, .ref aMo_stack, .int Mo_height, .ref aMo_memory, .ref aMo_out, .int Mo_outs, .ref aMo_names, .ref aMo_starts, .ref aMo_sizes, .int Mo_defined, .ref aMo_kind, .ref aMo_what, .ref aMo_running, .ref aMo_at, .int Mo_deep, .ref aMo_limits, .ref aMo_counts, .ref aMo_owner, .int Mo_loops, .ref aMo_open, .int Mo_steps, .int Mo_fault, .int Mo_place])), (aMo_stack, .inl (cI, 33, .inl Mo_stack))] s.heap.size = A at hD ⊢
  have hA : ∀ q : Nat, s.heap.size ≤ q → A q := fun q h => by rw [← hAe]; exact Or.inr h
  have hS : va_S A s.heap s.heap [] := va_S.rf
  have hl := lv_entry ([.ref aMo, .int p0]) (n := 2) (Nat.le_of_ble_eq_true rfl)
  have hfr : entryFrame m args 2 = entryFrame m ([.ref aMo, .int p0] : List Value).toArray 2 := by rw [hargs]
  rw [hfr, lg_entry_eq]
  generalize (lg_sl ([.ref aMo, .int p0]) ++ List.replicate (2 - (lg_sl ([.ref aMo, .int p0])).length) Slot.unset).toArray = ls at hl ⊢
  have hl : lv_has ls 2 [(0, .ref aMo), (1, .int p0)] := hl
  refine nameQ_ (fun Q hQ => ?_)
  unfold fnX12_grows at h
  refine lv_iload_n hx hb dX12_grows_0 rfl (lv_at hl 1 rfl) ?_
  refine lv_if_eq (tgt := 41) hx hb dX12_grows_1 (by decide) (fun c_1 => ?_) (fun c_1 => ?_)
  · have h := it_t c_1 h
    refine lv_iconst (v := (1 : Int32)) hx hb dX12_grows_41 (by decide) ?_
    refine lv_goto (tgt := 46) hx hb dX12_grows_42 (by decide) ?_
    cases h
    rw [hQ]
    exact W.zret (ty := .boolean) hx hb hr rfl (fun t ht hW => ⟨⟨_, (), rfl, rfl, by rw [ht]; exact hP, va_K.moved hW.alike hK, hD⟩, hS.F ht⟩) hS.2.2 dX12_grows_46
  · have h := it_f c_1 h
    refine lv_iload_n hx hb dX12_grows_4 rfl (lv_at hl 1 rfl) ?_
    refine lv_iconst (v := (3 : Int32)) hx hb dX12_grows_5 (by decide) ?_
    refine lv_icmp_eq (tgt := 41) hx hb dX12_grows_6 (by decide) (fun c_2 => ?_) (fun c_2 => ?_)
    · have h := it_t c_2 h
      refine lv_iconst (v := (1 : Int32)) hx hb dX12_grows_41 (by decide) ?_
      refine lv_goto (tgt := 46) hx hb dX12_grows_42 (by decide) ?_
      cases h
      rw [hQ]
      exact W.zret (ty := .boolean) hx hb hr rfl (fun t ht hW => ⟨⟨_, (), rfl, rfl, by rw [ht]; exact hP, va_K.moved hW.alike hK, hD⟩, hS.F ht⟩) hS.2.2 dX12_grows_46
    · have h := it_f c_2 h
      refine lv_iload_n hx hb dX12_grows_9 rfl (lv_at hl 1 rfl) ?_
      refine lv_bipush (v := (6 : Int32)) hx hb dX12_grows_10 (by decide) ?_
      refine lv_icmp_eq (tgt := 41) hx hb dX12_grows_12 (by decide) (fun c_3 => ?_) (fun c_3 => ?_)
      · have h := it_t c_3 h
        refine lv_iconst (v := (1 : Int32)) hx hb dX12_grows_41 (by decide) ?_
        refine lv_goto (tgt := 46) hx hb dX12_grows_42 (by decide) ?_
        cases h
        rw [hQ]
        exact W.zret (ty := .boolean) hx hb hr rfl (fun t ht hW => ⟨⟨_, (), rfl, rfl, by rw [ht]; exact hP, va_K.moved hW.alike hK, hD⟩, hS.F ht⟩) hS.2.2 dX12_grows_46
      · have h := it_f c_3 h
        refine lv_iload_n hx hb dX12_grows_15 rfl (lv_at hl 1 rfl) ?_
        refine lv_bipush (v := (8 : Int32)) hx hb dX12_grows_16 (by decide) ?_
        refine lv_icmp_eq (tgt := 41) hx hb dX12_grows_18 (by decide) (fun c_4 => ?_) (fun c_4 => ?_)
        · have h := it_t c_4 h
          refine lv_iconst (v := (1 : Int32)) hx hb dX12_grows_41 (by decide) ?_
          refine lv_goto (tgt := 46) hx hb dX12_grows_42 (by decide) ?_
          cases h
          rw [hQ]
          exact W.zret (ty := .boolean) hx hb hr rfl (fun t ht hW => ⟨⟨_, (), rfl, rfl, by rw [ht]; exact hP, va_K.moved hW.alike hK, hD⟩, hS.F ht⟩) hS.2.2 dX12_grows_46
        · have h := it_f c_4 h
          refine lv_iload_n hx hb dX12_grows_21 rfl (lv_at hl 1 rfl) ?_
          refine lv_bipush (v := (7 : Int32)) hx hb dX12_grows_22 (by decide) ?_
          refine lv_icmp_ne (tgt := 45) hx hb dX12_grows_24 (by decide) (fun c_5 => ?_) (fun c_5 => ?_)
          · have h := it_f c_5 h
            refine lv_iconst (v := (0 : Int32)) hx hb dX12_grows_45 (by decide) ?_
            cases h
            rw [hQ]
            exact W.zret (ty := .boolean) hx hb hr rfl (fun t ht hW => ⟨⟨_, (), rfl, rfl, by rw [ht]; exact hP, va_K.moved hW.alike hK, hD⟩, hS.F ht⟩) hS.2.2 dX12_grows_46
          · have h := it_t c_5 h
            refine lv_aload_n hx hb dX12_grows_27 rfl (lv_at hl 0 rfl) ?_
            refine va_get (D := (dC, dI)) (ci := 11) (v := .ref aMo_stack) (C := RX12) (T := TX12) (N := 27) hx hb hts (fun w h => List.mem_cons_of_mem _ (inX12 w h)) hown hK hP 0 rfl rfl 5 (by decide) (hts _ (List.mem_cons_of_mem _ mw_464)) (fun _ h9 => h9) rfl dX12_grows_28 ?_
            refine lv_aload_n hx hb dX12_grows_31 rfl (lv_at hl 0 rfl) ?_
            refine va_get (D := (dC, dI)) (ci := 11) (v := .int Mo_height) (C := RX12) (T := TX12) (N := 27) hx hb hts (fun w h => List.mem_cons_of_mem _ (inX12 w h)) hown hK hP 0 rfl rfl 6 (by decide) (hts _ (List.mem_cons_of_mem _ mw_465)) (fun _ h9 => h9) rfl dX12_grows_32 ?_
            refine lv_iconst (v := (1 : Int32)) hx hb dX12_grows_35 (by decide) ?_
            refine lv_isub hx hb dX12_grows_36 ?_
            obtain ⟨x_6, hi_7, h⟩ := bd1_some h
            obtain ⟨hi_7, ex_8⟩ := ga_some hi_7
            refine va_iald hx hb hK hP 1 0 rfl rfl hi_7 dX12_grows_37 ?_
            rw [← ex_8]
            refine lv_if_eq (tgt := 45) hx hb dX12_grows_38 (by decide) (fun c_9 => ?_) (fun c_9 => ?_)
            · have h := it_t c_9 h
              refine lv_iconst (v := (0 : Int32)) hx hb dX12_grows_45 (by decide) ?_
              cases h
              rw [hQ]
              exact W.zret (ty := .boolean) hx hb hr rfl (fun t ht hW => ⟨⟨_, (), rfl, rfl, by rw [ht]; exact hP, va_K.moved hW.alike hK, hD⟩, hS.F ht⟩) hS.2.2 dX12_grows_46
            · have h := it_f c_9 h
              refine lv_iconst (v := (1 : Int32)) hx hb dX12_grows_41 (by decide) ?_
              refine lv_goto (tgt := 46) hx hb dX12_grows_42 (by decide) ?_
              cases h
              rw [hQ]
              exact W.zret (ty := .boolean) hx hb hr rfl (fun t ht hW => ⟨⟨_, (), rfl, rfl, by rw [ht]; exact hP, va_K.moved hW.alike hK, hD⟩, hS.F ht⟩) hS.2.2 dX12_grows_46
abbrev rmX12_floor : Room := { frames := 0, cells := 0, slots := 0, locals := 0 }
set_option maxHeartbeats 4000000 in
set_option maxRecDepth 100000 in
theorem ctX12_floor (l : Launch) (dC : Nat → ClassId) (dI : Nat → Nat → Nat) (cI cC cJ : ClassId) (sz : Nat)  (p0 : Int64) (p1 : Int64) (rr : Int64)  (h : fnX12_floor  p0 p1 = some rr) : Met l yX12_floor wsX12_floor rmX12_floor (va_Pc [.long p0, .long p1] (fun U => U.heap.size = sz ∧ va_P (dC, dI) vwCl [] U.heap ∧ va_K (dC, dI) vwCl [(cI, .int), (cC, .char), (cJ, .long)] U ∧ va_D (fun _ => True) [])) (va_Ql (fun r (_ : Unit) => r = rr) (fun _ t => va_P (dC, dI) vwCl [] t.heap ∧ va_K (dC, dI) vwCl [(cI, .int), (cC, .char), (cJ, .long)] t ∧ va_D (va_A [] sz) []) (va_A [] sz)) 0 0 (va_A [] sz) := by
  refine Met.ofW (cc := cX12_floor) (maxL := 6) (ret := (some .long)) (by decide) rfl ?_
  intro p e s m args below meth c s₁ B hml hv
  obtain ⟨hargs, hsz, hP, hK, hD0⟩ := hv
  have hx := B.exec
  have hb := B.bytes
  have hr := B.returns
  have hts := atoms_spec (ws := wsX12_floor) B.pre
  have hown : s.vm.findClass RX12 = some m.cls := findClass_of_methodNamed B.named
  have hlocks := B.notSynchronized
  subst hsz
  have hD := hD0.self (sz := s.heap.size)
  generalize hAe : va_A [] s.heap.size = A at hD ⊢
  have hA : ∀ q : Nat, s.heap.size ≤ q → A q := fun q h => by rw [← hAe]; exact Or.inr h
  have hS : va_S A s.heap s.heap [] := va_S.rf
  have hl := lv_entry ([.long p0, .long p1]) (n := 6) (Nat.le_of_ble_eq_true rfl)
  have hfr : entryFrame m args 6 = entryFrame m ([.long p0, .long p1] : List Value).toArray 6 := by rw [hargs]
  rw [hfr, lg_entry_eq]
  generalize (lg_sl ([.long p0, .long p1]) ++ List.replicate (6 - (lg_sl ([.long p0, .long p1])).length) Slot.unset).toArray = ls at hl ⊢
  have hl : lv_has ls 6 [(0, .long p0), (2, .long p1)] := hl
  refine nameQ_ (fun Q hQ => ?_)
  have hP : va_P (dC, dI) vwCl [] s.heap := hP
  have hj_45 : ∀ (x4 : Int64) (H : Heap) (locs : List Loc) (ls : Array Slot), fnX12_floor_45 x4 = some rr → va_P (dC, dI) vwCl [] H → va_D A [] → va_S A s.heap H locs → lv_has ls 6 [(4, .long x4)] → W p l e rmX12_floor s m args below meth c H locs 0 0 Q (F0 m 45 ls []) := by
    intro x4 H locs ls h hP hD hS hl
    unfold fnX12_floor_45 at h
    refine lv_lload hx hb dX12_floor_45 (lv_at hl 0 rfl) ?_
    cases h
    rw [hQ]
    exact W.lret hx hb hr (fun t ht hW => ⟨⟨_, (), rfl, rfl, by rw [ht]; exact hP, va_K.moved hW.alike hK, hD⟩, hS.F ht⟩) hS.2.2 dX12_floor_47
  have hj_35 : ∀ (x4 : Int64) (z0 : Int32) (z1 : Int32) (H : Heap) (locs : List Loc) (ls : Array Slot), fnX12_floor_35 x4 z0 z1 = some rr → va_P (dC, dI) vwCl [] H → va_D A [] → va_S A s.heap H locs → lv_has ls 6 [(4, .long x4)] → W p l e rmX12_floor s m args below meth c H locs 0 0 Q (F0 m 35 ls [.int z1, .int z0]) := by
    intro x4 z0 z1 H locs ls h hP hD hS hl
    unfold fnX12_floor_35 at h
    refine lv_icmp_eq (tgt := 45) hx hb dX12_floor_35 (by decide) (fun c_1 => ?_) (fun c_1 => ?_)
    · have h := it_t c_1 h
      exact hj_45 x4 _ _ _ h hP hD hS (lv_sub hl [0] rfl)
    · have h := it_f c_1 h
      refine lv_lload hx hb dX12_floor_38 (lv_at hl 0 rfl) ?_
      refine lv_lconst (v := (1 : Int64)) hx hb dX12_floor_40 (by decide) ?_
      refine lv_lsub hx hb dX12_floor_41 ?_
      refine lv_goto (tgt := 47) hx hb dX12_floor_42 (by decide) ?_
      cases h
      rw [hQ]
      exact W.lret hx hb hr (fun t ht hW => ⟨⟨_, (), rfl, rfl, by rw [ht]; exact hP, va_K.moved hW.alike hK, hD⟩, hS.F ht⟩) hS.2.2 dX12_floor_47
  have hj_24 : ∀ (x2 : Int64) (x4 : Int64) (z0 : Int32) (H : Heap) (locs : List Loc) (ls : Array Slot), fnX12_floor_24 x2 x4 z0 = some rr → va_P (dC, dI) vwCl [] H → va_D A [] → va_S A s.heap H locs → lv_has ls 6 [(2, .long x2), (4, .long x4)] → W p l e rmX12_floor s m args below meth c H locs 0 0 Q (F0 m 24 ls [.int z0]) := by
    intro x2 x4 z0 H locs ls h hP hD hS hl
    unfold fnX12_floor_24 at h
    refine lv_lload_n hx hb dX12_floor_24 rfl (lv_at hl 0 rfl) ?_
    refine lv_lconst (v := (0 : Int64)) hx hb dX12_floor_25 (by decide) ?_
    refine W.lcmp hx hb dX12_floor_26 ?_
    refine lv_if_ge (tgt := 34) hx hb dX12_floor_27 (by decide) (fun c_2 => ?_) (fun c_2 => ?_)
    · have h := it_t c_2 h
      refine lv_iconst (v := (0 : Int32)) hx hb dX12_floor_34 (by decide) ?_
      exact hj_35 x4 z0 (0 : Int32) _ _ _ h hP hD hS (lv_sub hl [1] rfl)
    · have h := it_f c_2 h
      refine lv_iconst (v := (1 : Int32)) hx hb dX12_floor_30 (by decide) ?_
      refine lv_goto (tgt := 35) hx hb dX12_floor_31 (by decide) ?_
      exact hj_35 x4 z0 (1 : Int32) _ _ _ h hP hD hS (lv_sub hl [1] rfl)
  unfold fnX12_floor at h
  refine lv_lload_n hx hb dX12_floor_0 rfl (lv_at hl 0 rfl) ?_
  refine lv_lload_n hx hb dX12_floor_1 rfl (lv_at hl 1 rfl) ?_
  obtain ⟨hz_3, h⟩ := nz_some h
  refine lv_ldiv hx hb dX12_floor_2 hz_3 ?_
  refine lv_lstore (lv' := [(4, .long (p0 / p1)), (0, .long p0), (2, .long p1)]) hx hb dX12_floor_3 hl (by decide) rfl (fun ls hl => ?_)
  refine lv_lload_n hx hb dX12_floor_5 rfl (lv_at hl 1 rfl) ?_
  refine lv_lload_n hx hb dX12_floor_6 rfl (lv_at hl 2 rfl) ?_
  obtain ⟨hz_4, h⟩ := nz_some h
  refine lv_lrem hx hb dX12_floor_7 hz_4 ?_
  refine lv_lconst (v := (0 : Int64)) hx hb dX12_floor_8 (by decide) ?_
  refine W.lcmp hx hb dX12_floor_9 ?_
  refine lv_if_eq (tgt := 45) hx hb dX12_floor_10 (by decide) (fun c_5 => ?_) (fun c_5 => ?_)
  · have h := it_t c_5 h
    exact hj_45 (p0 / p1) _ _ _ h hP hD hS (lv_sub hl [0] rfl)
  · have h := it_f c_5 h
    refine lv_lload_n hx hb dX12_floor_13 rfl (lv_at hl 1 rfl) ?_
    refine lv_lconst (v := (0 : Int64)) hx hb dX12_floor_14 (by decide) ?_
    refine W.lcmp hx hb dX12_floor_15 ?_
    refine lv_if_ge (tgt := 23) hx hb dX12_floor_16 (by decide) (fun c_6 => ?_) (fun c_6 => ?_)
    · have h := it_t c_6 h
      refine lv_iconst (v := (0 : Int32)) hx hb dX12_floor_23 (by decide) ?_
      exact hj_24 p1 (p0 / p1) (0 : Int32) _ _ _ h hP hD hS (lv_sub hl [2, 0] rfl)
    · have h := it_f c_6 h
      refine lv_iconst (v := (1 : Int32)) hx hb dX12_floor_19 (by decide) ?_
      refine lv_goto (tgt := 24) hx hb dX12_floor_20 (by decide) ?_
      exact hj_24 p1 (p0 / p1) (1 : Int32) _ _ _ h hP hD hS (lv_sub hl [2, 0] rfl)
