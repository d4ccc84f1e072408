theorem miX12_push_X12 : ∀ w ∈ u_ws RX12 TX12 27, w ∈ wsX12_push := by decide +kernel
theorem mbX12_push_0 : (.fieldLink RX12 178 "WordForgeModel" "height" "I" : Cond) ∈ wsX12_push := by decide +kernel
abbrev rmX12_push : Room := { frames := 1, cells := 0, slots := 0, locals := 22 }
set_option maxHeartbeats 4000000 in
set_option maxRecDepth 100000 in
theorem ctX12_push (l : Launch) (dC : Nat → ClassId) (dI : Nat → Nat → Nat) (cI cC cJ : ClassId) (aMo aMo_text aMo_from aMo_to aMo_stack aMo_memory aMo_out aMo_names aMo_starts aMo_sizes aMo_kind aMo_what aMo_running aMo_at aMo_limits aMo_counts aMo_owner aMo_open : Nat) (sz : Nat) (Mo_length : Int32) (Mo_words : Int32) (Mo_stack : Nat → Int32) (Mo_height : Int32) (Mo_outs : Int32) (Mo_defined : Int32) (Mo_deep : Int32) (Mo_loops : Int32) (Mo_steps : Int32) (Mo_fault : Int32) (Mo_place : Int32) (p0 : Int32) (rr : Int32) (w_Mo_stack : Nat → Int32) (w_Mo_height : Int32) (h : fnX12_push Mo_stack Mo_height p0 = some (rr, w_Mo_stack, w_Mo_height)) : Met l yX12_push wsX12_push rmX12_push (va_Pc [.ref aMo, .int p0] (fun U => U.heap.size = sz ∧ va_P (dC, dI) vwCl [(aMo, .inr (11, [.ref aMo_text, .int Mo_length, .ref aMo_from, .ref aMo_to, .int Mo_words, .ref aMo_stack, .int Mo_height, .ref aMo_memory, .ref aMo_out, .int Mo_outs, .ref aMo_names, .ref aMo_starts, .ref aMo_sizes, .int Mo_defined, .ref aMo_kind, .ref aMo_what, .ref aMo_running, .ref aMo_at, .int Mo_deep, .ref aMo_limits, .ref aMo_counts, .ref aMo_owner, .int Mo_loops, .ref aMo_open, .int Mo_steps, .int Mo_fault, .int Mo_place])), (aMo_stack, .inl (cI, 33, .inl Mo_stack))] U.heap ∧ va_K (dC, dI) vwCl [(cI, .int), (cC, .char), (cJ, .long)] U ∧ va_D (fun _ => True) [(aMo, .inr (11, [.ref aMo_text, .int Mo_length, .ref aMo_from, .ref aMo_to, .int Mo_words, .ref aMo_stack, .int Mo_height, .ref aMo_memory, .ref aMo_out, .int Mo_outs, .ref aMo_names, .ref aMo_starts, .ref aMo_sizes, .int Mo_defined, .ref aMo_kind, .ref aMo_what, .ref aMo_running, .ref aMo_at, .int Mo_deep, .ref aMo_limits, .ref aMo_counts, .ref aMo_owner, .int Mo_loops, .ref aMo_open, .int Mo_steps, .int Mo_fault, .int Mo_place])), (aMo_stack, .inl (cI, 33, .inl Mo_stack))])) (va_Qi (fun r (_ : Unit) => r = rr) (fun _ t => va_P (dC, dI) vwCl [(aMo, .inr (11, [.ref aMo_text, .int Mo_length, .ref aMo_from, .ref aMo_to, .int Mo_words, .ref aMo_stack, .int w_Mo_height, .ref aMo_memory, .ref aMo_out, .int Mo_outs, .ref aMo_names, .ref aMo_starts, .ref aMo_sizes, .int Mo_defined, .ref aMo_kind, .ref aMo_what, .ref aMo_running, .ref aMo_at, .int Mo_deep, .ref aMo_limits, .ref aMo_counts, .ref aMo_owner, .int Mo_loops, .ref aMo_open, .int Mo_steps, .int Mo_fault, .int Mo_place])), (aMo_stack, .inl (cI, 33, .inl w_Mo_stack))] t.heap ∧ va_K (dC, dI) vwCl [(cI, .int), (cC, .char), (cJ, .long)] t ∧ va_D (va_A [(aMo, .inr (11, [.ref aMo_text, .int Mo_length, .ref aMo_from, .ref aMo_to, .int Mo_words, .ref aMo_stack, .int Mo_height, .ref aMo_memory, .ref aMo_out, .int Mo_outs, .ref aMo_names, .ref aMo_starts, .ref aMo_sizes, .int Mo_defined, .ref aMo_kind, .ref aMo_what, .ref aMo_running, .ref aMo_at, .int Mo_deep, .ref aMo_limits, .ref aMo_counts, .ref aMo_owner, .int Mo_loops, .ref aMo_open, .int Mo_steps, .int Mo_fault, .int Mo_place])), (aMo_stack, .inl (cI, 33, .inl Mo_stack))] sz) [(aMo, .inr (11, [.ref aMo_text, .int Mo_length, .ref aMo_from, .ref aMo_to, .int Mo_words, .ref aMo_stack, .int w_Mo_height, .ref aMo_memory, .ref aMo_out, .int Mo_outs, .ref aMo_names, .ref aMo_starts, .ref aMo_sizes, .int Mo_defined, .ref aMo_kind, .ref aMo_what, .ref aMo_running, .ref aMo_at, .int Mo_deep, .ref aMo_limits, .ref aMo_counts, .ref aMo_owner, .int Mo_loops, .ref aMo_open, .int Mo_steps, .int Mo_fault, .int Mo_place])), (aMo_stack, .inl (cI, 33, .inl w_Mo_stack))]) (va_A [(aMo, .inr (11, [.ref aMo_text, .int Mo_length, .ref aMo_from, .ref aMo_to, .int Mo_words, .ref aMo_stack, .int Mo_height, .ref aMo_memory, .ref aMo_out, .int Mo_outs, .ref aMo_names, .ref aMo_starts, .ref aMo_sizes, .int Mo_defined, .ref aMo_kind, .ref aMo_what, .ref aMo_running, .ref aMo_at, .int Mo_deep, .ref aMo_limits, .ref aMo_counts, .ref aMo_owner, .int Mo_loops, .ref aMo_open, .int Mo_steps, .int Mo_fault, .int Mo_place])), (aMo_stack, .inl (cI, 33, .inl Mo_stack))] sz)) 0 0 (va_A [(aMo, .inr (11, [.ref aMo_text, .int Mo_length, .ref aMo_from, .ref aMo_to, .int Mo_words, .ref aMo_stack, .int Mo_height, .ref aMo_memory, .ref aMo_out, .int Mo_outs, .ref aMo_names, .ref aMo_starts, .ref aMo_sizes, .int Mo_defined, .ref aMo_kind, .ref aMo_what, .ref aMo_running, .ref aMo_at, .int Mo_deep, .ref aMo_limits, .ref aMo_counts, .ref aMo_owner, .int Mo_loops, .ref aMo_open, .int Mo_steps, .int Mo_fault, .int Mo_place])), (aMo_stack, .inl (cI, 33, .inl Mo_stack))] sz) := by
  refine Met.ofW (cc := cX12_push) (maxL := 2) (ret := (some .boolean)) (by decide) rfl ?_
  intro p e s m args below meth c s₁ B hml hv
  obtain ⟨hargs, hsz, hP, hK, hD0⟩ := hv
  have hx := B.exec
  have hb := B.bytes
  have hr := B.returns
  have hts := atoms_spec (ws := wsX12_push) B.pre
  have hown : s.vm.findClass RX12 = some m.cls := findClass_of_methodNamed B.named
  have hlocks := B.notSynchronized
  subst hsz
  have hD := hD0.self (sz := s.heap.size)
  generalize hAe : va_A [(aMo, .inr (11, [.ref aMo_text, .int Mo_length, .ref aMo_from, .ref aMo_to, .int Mo_words, .ref aMo_stack, .int Mo_height, .ref aMo_memory, .ref aMo_out, .int Mo_outs, .ref aMo_names, .ref aMo_starts, .ref aMo_sizes, .int Mo_defined, .ref aMo_kind, .ref aMo_what, .ref aMo_running, .ref aMo_at, .int Mo_deep, .ref aMo_limits, .ref aMo_counts, .ref aMo_owner, .int Mo_loops, .ref aMo_open, .int Mo_steps, .int Mo_fault, .int Mo_place])), (aMo_stack, .inl (cI, 33, .inl Mo_stack))] s.heap.size = A at hD ⊢
  have hA : ∀ q : Nat, s.heap.size ≤ q → A q := fun q h => by rw [← hAe]; exact Or.inr h
  have hS : va_S A s.heap s.heap [] := va_S.rf
  have hl := lv_entry ([.ref aMo, .int p0]) (n := 2) (Nat.le_of_ble_eq_true rfl)
  have hfr : entryFrame m args 2 = entryFrame m ([.ref aMo, .int p0] : List Value).toArray 2 := by rw [hargs]
  rw [hfr, lg_entry_eq]
  generalize (lg_sl ([.ref aMo, .int p0]) ++ List.replicate (2 - (lg_sl ([.ref aMo, .int p0])).length) Slot.unset).toArray = ls at hl ⊢
  have hl : lv_has ls 2 [(0, .ref aMo), (1, .int p0)] := hl
  refine nameQ_ (fun Q hQ => ?_)
  unfold fnX12_push at h
  refine lv_aload_n hx hb dX12_push_0 rfl (lv_at hl 0 rfl) ?_
  refine va_get (D := (dC, dI)) (ci := 11) (v := .int Mo_height) (C := RX12) (T := TX12) (N := 27) hx hb hts miX12_push_X12 hown hK hP 0 rfl rfl 6 (by decide) (hts _ mbX12_push_0) (fun _ h9 => h9) rfl dX12_push_1 ?_
  refine lv_bipush (v := (32 : Int32)) hx hb dX12_push_4 (by decide) ?_
  refine lv_icmp_ne (tgt := 11) hx hb dX12_push_6 (by decide) (fun c_1 => ?_) (fun c_1 => ?_)
  · have h := it_f c_1 h
    refine lv_aload_n hx hb dX12_push_11 rfl (lv_at hl 0 rfl) ?_
    refine lv_iload_n hx hb dX12_push_12 rfl (lv_at hl 1 rfl) ?_
    refine lv_i2l (v := p0.toInt64) hx hb dX12_push_13 rfl ?_
    obtain ⟨Mo_stack_2, Mo_height_2, hc_2, h⟩ := bd2_some h
    have hPc := hP.sub (ws' := [(aMo, .inr (11, [.ref aMo_text, .int Mo_length, .ref aMo_from, .ref aMo_to, .int Mo_words, .ref aMo_stack, .int Mo_height, .ref aMo_memory, .ref aMo_out, .int Mo_outs, .ref aMo_names, .ref aMo_starts, .ref aMo_sizes, .int Mo_defined, .ref aMo_kind, .ref aMo_what, .ref aMo_running, .ref aMo_at, .int Mo_deep, .ref aMo_limits, .ref aMo_counts, .ref aMo_owner, .int Mo_loops, .ref aMo_open, .int Mo_steps, .int Mo_fault, .int Mo_place])), (aMo_stack, .inl (cI, 33, .inl Mo_stack))]) [0, 1] rfl
    have hDc := hD.sub (ws' := [(aMo, .inr (11, [.ref aMo_text, .int Mo_length, .ref aMo_from, .ref aMo_to, .int Mo_words, .ref aMo_stack, .int Mo_height, .ref aMo_memory, .ref aMo_out, .int Mo_outs, .ref aMo_names, .ref aMo_starts, .ref aMo_sizes, .int Mo_defined, .ref aMo_kind, .ref aMo_what, .ref aMo_running, .ref aMo_at, .int Mo_deep, .ref aMo_limits, .ref aMo_counts, .ref aMo_owner, .int Mo_loops, .ref aMo_open, .int Mo_steps, .int Mo_fault, .int Mo_place])), (aMo_stack, .inl (cI, 33, .inl Mo_stack))]) [0, 1] (by decide) rfl
    have hFc := va_free (wc := [(aMo, .inr (11, [.ref aMo_text, .int Mo_length, .ref aMo_from, .ref aMo_to, .int Mo_words, .ref aMo_stack, .int Mo_height, .ref aMo_memory, .ref aMo_out, .int Mo_outs, .ref aMo_names, .ref aMo_starts, .ref aMo_sizes, .int Mo_defined, .ref aMo_kind, .ref aMo_what, .ref aMo_running, .ref aMo_at, .int Mo_deep, .ref aMo_limits, .ref aMo_counts, .ref aMo_owner, .int Mo_loops, .ref aMo_open, .int Mo_steps, .int Mo_fault, .int Mo_place])), (aMo_stack, .inl (cI, 33, .inl Mo_stack))]) hD hS hA [0, 1] rfl
    refine va_callv (va_runV (As := [.long p0.toInt64]) (rest := []) ⟨hx, hb, hml, hown, hts⟩ (ctX12_put l dC dI cI cC cJ aMo aMo_text aMo_from aMo_to aMo_stack aMo_memory aMo_out aMo_names aMo_starts aMo_sizes aMo_kind aMo_what aMo_running aMo_at aMo_limits aMo_counts aMo_owner aMo_open H.size Mo_length Mo_words Mo_stack Mo_height Mo_outs Mo_defined Mo_deep Mo_loops Mo_steps Mo_fault Mo_place p0.toInt64 Mo_stack_2 Mo_height_2 hc_2) (cwV 1 hts gX12_push_X12_put rfl rfl rfl (by decide +kernel) ⟨Nat.le_of_ble_eq_true rfl, Nat.le_of_ble_eq_true rfl⟩) ⟨fun a U g mk q => by obtain ⟨q0, q1, qP, qK, qD⟩ := q; exact ⟨q0, q1, qP, va_K.moved (u := U) (U := U.calling g mk a) (Vm.Alike.refl U.vm) qK, qD⟩, va_recv hK hPc (ci := 11) (q0 := 0) rfl rfl, fun U hU hW => ⟨rfl, by rw [hU], by rw [hU]; exact hPc, va_K.moved hW.alike hK, hDc.weaken (fun _ _ _ _ => trivial)⟩⟩ rfl rfl hl.1 rfl (lv_room (Nat.le_of_ble_eq_true rfl)) dX12_push_14 ⟨Nat.zero_le _, Nat.zero_le _⟩) hS (fun q _ h => hFc q h) hFc (fun u t H1 locs ht hvm hw hB hz1 hk1 hS => ?_)
    obtain ⟨hP1, hK1, hD1⟩ := hB
    rw [ht] at hP1
    obtain ⟨hP, hD⟩ := va_join (wr := []) (w1 := [(aMo, .inr (11, [.ref aMo_text, .int Mo_length, .ref aMo_from, .ref aMo_to, .int Mo_words, .ref aMo_stack, .int Mo_height_2, .ref aMo_memory, .ref aMo_out, .int Mo_outs, .ref aMo_names, .ref aMo_starts, .ref aMo_sizes, .int Mo_defined, .ref aMo_kind, .ref aMo_what, .ref aMo_running, .ref aMo_at, .int Mo_deep, .ref aMo_limits, .ref aMo_counts, .ref aMo_owner, .int Mo_loops, .ref aMo_open, .int Mo_steps, .int Mo_fault, .int Mo_place])), (aMo_stack, .inl (cI, 33, .inl Mo_stack_2))]) hP hD [0, 1] [] rfl rfl (by decide) (by decide) hk1 hFc hP1 hD1
    generalize H1 = H at hP hS ⊢
    have hP : va_P (dC, dI) vwCl [(aMo, .inr (11, [.ref aMo_text, .int Mo_length, .ref aMo_from, .ref aMo_to, .int Mo_words, .ref aMo_stack, .int Mo_height_2, .ref aMo_memory, .ref aMo_out, .int Mo_outs, .ref aMo_names, .ref aMo_starts, .ref aMo_sizes, .int Mo_defined, .ref aMo_kind, .ref aMo_what, .ref aMo_running, .ref aMo_at, .int Mo_deep, .ref aMo_limits, .ref aMo_counts, .ref aMo_owner, .int Mo_loops, .ref aMo_open, .int Mo_steps, .int Mo_fault, .int Mo_place])), (aMo_stack, .inl (cI, 33, .inl Mo_stack_2))] H := hP
    have hD : va_D A [(aMo, .inr (11, [.ref aMo_text, .int Mo_length, .ref aMo_from, .ref aMo_to, .int Mo_words, .ref aMo_stack, .int Mo_height_2, .ref aMo_memory, .ref aMo_out, .int Mo_outs, .ref aMo_names, .ref aMo_starts, .ref aMo_sizes, .int Mo_defined, .ref aMo_kind, .ref aMo_what, .ref aMo_running, .ref aMo_at, .int Mo_deep, .ref aMo_limits, .ref aMo_counts, .ref aMo_owner, .int Mo_loops, .ref aMo_open, .int Mo_steps, .int Mo_fault, .int Mo_place])), (aMo_stack, .inl (cI, 33, .inl Mo_stack_2))] := hD
    refine lv_iconst (v := (1 : Int32)) hx hb dX12_push_17 (by decide) ?_
    cases h
    rw [hQ]
    exact W.zret (ty := .boolean) (v := (1 : Int32)) hx hb hr rfl (fun t ht hW => ⟨⟨_, (), rfl, rfl, by rw [ht]; exact hP, va_K.moved hW.alike hK, hD⟩, hS.F ht⟩) hS.2.2 dX12_push_18
  · have h := it_t c_1 h
    refine lv_iconst (v := (0 : Int32)) hx hb dX12_push_9 (by decide) ?_
    cases h
    rw [hQ]
    exact W.zret (ty := .boolean) (v := (0 : Int32)) hx hb hr rfl (fun t ht hW => ⟨⟨_, (), rfl, rfl, by rw [ht]; exact hP, va_K.moved hW.alike hK, hD⟩, hS.F ht⟩) hS.2.2 dX12_push_10
theorem mbX12_cell_0 : (.constantLong RX12 303 (4294967296) : Cond) ∈ wsX12_cell := by decide +kernel
theorem miX12_cell_X12 : ∀ w ∈ u_ws RX12 TX12 27, w ∈ wsX12_cell := by decide +kernel
theorem mbX12_cell_1 : (.fieldLink RX12 22 "WordForgeModel" "memory" "[I" : Cond) ∈ wsX12_cell := by decide +kernel
abbrev rmX12_cell : Room := { frames := 0, cells := 0, slots := 0, locals := 0 }
set_option maxHeartbeats 4000000 in
set_option maxRecDepth 100000 in
theorem ctX12_cell (l : Launch) (dC : Nat → ClassId) (dI : Nat → Nat → Nat) (cI cC cJ : ClassId) (aMo aMo_text aMo_from aMo_to aMo_stack aMo_memory aMo_out aMo_names aMo_starts aMo_sizes aMo_kind aMo_what aMo_running aMo_at aMo_limits aMo_counts aMo_owner aMo_open : Nat) (sz : Nat) (Mo_length : Int32) (Mo_words : Int32) (Mo_height : Int32) (Mo_memory : Nat → Int32) (Mo_outs : Int32) (Mo_defined : Int32) (Mo_deep : Int32) (Mo_loops : Int32) (Mo_steps : Int32) (Mo_fault : Int32) (Mo_place : Int32) (p0 : Int32) (rr : Int64)  (h : fnX12_cell Mo_memory p0 = some rr) : Met l yX12_cell wsX12_cell rmX12_cell (va_Pc [.ref aMo, .int p0] (fun U => U.heap.size = sz ∧ va_P (dC, dI) vwCl [(aMo, .inr (11, [.ref aMo_text, .int Mo_length, .ref aMo_from, .ref aMo_to, .int Mo_words, .ref aMo_stack, .int Mo_height, .ref aMo_memory, .ref aMo_out, .int Mo_outs, .ref aMo_names, .ref aMo_starts, .ref aMo_sizes, .int Mo_defined, .ref aMo_kind, .ref aMo_what, .ref aMo_running, .ref aMo_at, .int Mo_deep, .ref aMo_limits, .ref aMo_counts, .ref aMo_owner, .int Mo_loops, .ref aMo_open, .int Mo_steps, .int Mo_fault, .int Mo_place])), (aMo_memory, .inl (cI, 16, .inl Mo_memory))] U.heap ∧ va_K (dC, dI) vwCl [(cI, .int), (cC, .char), (cJ, .long)] U ∧ va_D (fun _ => True) [(aMo, .inr (11, [.ref aMo_text, .int Mo_length, .ref aMo_from, .ref aMo_to, .int Mo_words, .ref aMo_stack, .int Mo_height, .ref aMo_memory, .ref aMo_out, .int Mo_outs, .ref aMo_names, .ref aMo_starts, .ref aMo_sizes, .int Mo_defined, .ref aMo_kind, .ref aMo_what, .ref aMo_running, .ref aMo_at, .int Mo_deep, .ref aMo_limits, .ref aMo_counts, .ref aMo_owner, .int Mo_loops, .ref aMo_open, .int Mo_steps, .int Mo_fault, .int Mo_place])), (aMo_memory, .inl (cI, 16, .inl Mo_memory))])) (va_Ql (fun r (_ : Unit) => r = rr) (fun _ t => va_P (dC, dI) vwCl [(aMo, .inr (11, [.ref aMo_text, .int Mo_length, .ref aMo_from, .ref aMo_to, .int Mo_words, .ref aMo_stack, .int Mo_height, .ref aMo_memory, .ref aMo_out, .int Mo_outs, .ref aMo_names, .ref aMo_starts, .ref aMo_sizes, .int Mo_defined, .ref aMo_kind, .ref aMo_what, .ref aMo_running, .ref aMo_at, .int Mo_deep, .ref aMo_limits, .ref aMo_counts, .ref aMo_owner, .int Mo_loops, .ref aMo_open, .int Mo_steps, .int Mo_fault, .int Mo_place])), (aMo_memory, .inl (cI, 16, .inl Mo_memory))] t.heap ∧ va_K (dC, dI) vwCl [(cI, .int), (cC, .char), (cJ, .long)] t ∧ va_D (va_A [(aMo, .inr (11, [.ref aMo_text, .int Mo_length, .ref aMo_from, .ref aMo_to, .int Mo_words, .ref aMo_stack, .int Mo_height, .ref aMo_memory, .ref aMo_out, .int Mo_outs, .ref aMo_names, .ref aMo_starts, .ref aMo_sizes, .int Mo_defined, .ref aMo_kind, .ref aMo_what, .ref aMo_running, .ref aMo_at, .int Mo_deep, .ref aMo_limits, .ref aMo_counts, .ref aMo_owner, .int Mo_loops, .ref aMo_open, .int Mo_steps, .int Mo_fault, .int Mo_place])), (aMo_memory, .inl (cI, 16, .inl Mo_memory))] sz) [(aMo, .inr (11, [.ref aMo_text, .int Mo_length, .ref aMo_from, .ref aMo_to, .int Mo_words, .ref aMo_stack, .int Mo_height, .ref aMo_memory, .ref aMo_out, .int Mo_outs, .ref aMo_names, .ref aMo_starts, .ref aMo_sizes, .int Mo_defined, .ref aMo_kind, .ref aMo_what, .ref aMo_running, .ref aMo_at, .int Mo_deep, .ref aMo_limits, .ref aMo_counts, .ref aMo_owner, .int Mo_loops, .ref aMo_open, .int Mo_steps, .int Mo_fault, .int Mo_place])), (aMo_memory, .inl (cI, 16, .inl Mo_memory))]) (va_A [(aMo, .inr (11, [.ref aMo_text, .int Mo_length, .ref aMo_from, .ref aMo_to, .int Mo_words, .ref aMo_stack, .int Mo_height, .ref aMo_memory, .ref aMo_out, .int Mo_outs, .ref aMo_names, .ref aMo_starts, .ref aMo_sizes, .int Mo_defined, .ref aMo_kind, .ref aMo_what, .ref aMo_running, .ref aMo_at, .int Mo_deep, .ref aMo_limits, .ref aMo_counts, .ref aMo_owner, .int Mo_loops, .ref aMo_open, .int Mo_steps, .int Mo_fault, .int Mo_place])), (aMo_memory, .inl (cI, 16, .inl Mo_memory))] sz)) 0 0 (va_A [(aMo, .inr (11, [.ref aMo_text, .int Mo_length, .ref aMo_from, .ref aMo_to, .int Mo_words, .ref aMo_stack, .int Mo_height, .ref aMo_memory, .ref aMo_out, .int Mo_outs, .ref aMo_names, .ref aMo_starts, .ref aMo_sizes, .int Mo_defined, .ref aMo_kind, .ref aMo_what, .ref aMo_running, .ref aMo_at, .int Mo_deep, .ref aMo_limits, .ref aMo_counts, .ref aMo_owner, .int Mo_loops, .ref aMo_open, .int Mo_steps, .int Mo_fault, .int Mo_place])), (aMo_memory, .inl (cI, 16, .inl Mo_memory))] sz) := by
  refine Met.ofW (cc := cX12_cell) (maxL := 2) (ret := (some .long)) (by decide) rfl ?_
  intro p e s m args below meth c s₁ B hml hv
  obtain ⟨hargs, hsz, hP, hK, hD0⟩ := hv
  have hx := B.exec
  have hb := B.bytes
  have hr := B.returns
  have hts := atoms_spec (ws := wsX12_cell) B.pre
  have hown : s.vm.findClass RX12 = some m.cls := findClass_of_methodNamed B.named
  have hlocks := B.notSynchronized
  subst hsz
  have hD := hD0.self (sz := s.heap.size)
  generalize hAe : va_A [(aMo, .inr (11, [.ref aMo_text, .int Mo_length, .ref aMo_from, .ref aMo_to, .int Mo_words, .ref aMo_stack, .int Mo_height, .ref aMo_memory, .ref aMo_out, .int Mo_outs, .ref aMo_names, .ref aMo_starts, .ref aMo_sizes, .int Mo_defined, .ref aMo_kind, .ref aMo_what, .ref aMo_running, .ref aMo_at, .int Mo_deep, .ref aMo_limits, .ref aMo_counts, .ref aMo_owner, .int Mo_loops, .ref aMo_open, .int Mo_steps, .int Mo_fault, .int Mo_place])), (aMo_memory, .inl (cI, 16, .inl Mo_memory))] s.heap.size = A at hD ⊢
  have hA : ∀ q : Nat, s.heap.size ≤ q → A q := fun q h => by rw [← hAe]; exact Or.inr h
  have hS : va_S A s.heap s.heap [] := va_S.rf
  have hl := lv_entry ([.ref aMo, .int p0]) (n := 2) (Nat.le_of_ble_eq_true rfl)
  have hfr : entryFrame m args 2 = entryFrame m ([.ref aMo, .int p0] : List Value).toArray 2 := by rw [hargs]
  rw [hfr, lg_entry_eq]
  generalize (lg_sl ([.ref aMo, .int p0]) ++ List.replicate (2 - (lg_sl ([.ref aMo, .int p0])).length) Slot.unset).toArray = ls at hl ⊢
  have hl : lv_has ls 2 [(0, .ref aMo), (1, .int p0)] := hl
  refine nameQ_ (fun Q hQ => ?_)
  unfold fnX12_cell at h
  refine lv_iload_n hx hb dX12_cell_0 rfl (lv_at hl 1 rfl) ?_
  refine lv_if_lt (tgt := 10) hx hb dX12_cell_1 (by decide) (fun c_1 => ?_) (fun c_1 => ?_)
  · have h := it_t c_1 h
    refine lv_ldc2 (v := (4294967296 : Int64)) hx hb hown (hts _ mbX12_cell_0) dX12_cell_10 ?_
    refine lv_goto (tgt := 23) hx hb dX12_cell_13 (by decide) ?_
    cases h
    rw [hQ]
    exact W.lret (v := (4294967296 : Int64)) hx hb hr (fun t ht hW => ⟨⟨_, (), rfl, rfl, by rw [ht]; exact hP, va_K.moved hW.alike hK, hD⟩, hS.F ht⟩) hS.2.2 dX12_cell_23
  · have h := it_f c_1 h
    refine lv_iload_n hx hb dX12_cell_4 rfl (lv_at hl 1 rfl) ?_
    refine lv_bipush (v := (15 : Int32)) hx hb dX12_cell_5 (by decide) ?_
    refine lv_icmp_le (tgt := 16) hx hb dX12_cell_7 (by decide) (fun c_2 => ?_) (fun c_2 => ?_)
    · have h := it_t c_2 h
      refine lv_aload_n hx hb dX12_cell_16 rfl (lv_at hl 0 rfl) ?_
      refine va_get (D := (dC, dI)) (ci := 11) (v := .ref aMo_memory) (C := RX12) (T := TX12) (N := 27) hx hb hts miX12_cell_X12 hown hK hP 0 rfl rfl 7 (by decide) (hts _ mbX12_cell_1) (fun _ h9 => h9) rfl dX12_cell_17 ?_
      refine lv_iload_n hx hb dX12_cell_20 rfl (lv_at hl 1 rfl) ?_
      obtain ⟨x_3, hi_4, h⟩ := bd1_some h
      obtain ⟨hi_4, ex_5⟩ := ga_some hi_4
      refine va_iald hx hb hK hP 1 0 rfl rfl hi_4 dX12_cell_21 ?_
      rw [← ex_5]
      refine lv_i2l (v := x_3.toInt64) hx hb dX12_cell_22 rfl ?_
      cases h
      rw [hQ]
      exact W.lret (v := x_3.toInt64) hx hb hr (fun t ht hW => ⟨⟨_, (), rfl, rfl, by rw [ht]; exact hP, va_K.moved hW.alike hK, hD⟩, hS.F ht⟩) hS.2.2 dX12_cell_23
    · have h := it_f c_2 h
      refine lv_ldc2 (v := (4294967296 : Int64)) hx hb hown (hts _ mbX12_cell_0) dX12_cell_10 ?_
      refine lv_goto (tgt := 23) hx hb dX12_cell_13 (by decide) ?_
      cases h
      rw [hQ]
      exact W.lret (v := (4294967296 : Int64)) hx hb hr (fun t ht hW => ⟨⟨_, (), rfl, rfl, by rw [ht]; exact hP, va_K.moved hW.alike hK, hD⟩, hS.F ht⟩) hS.2.2 dX12_cell_23
theorem miX12_puts_X12 : ∀ w ∈ u_ws RX12 TX12 27, w ∈ wsX12_puts := by decide +kernel
theorem mbX12_puts_0 : (.fieldLink RX12 198 "WordForgeModel" "outs" "I" : Cond) ∈ wsX12_puts := by decide +kernel
abbrev rmX12_puts : Room := { frames := 0, cells := 0, slots := 0, locals := 0 }
set_option maxHeartbeats 4000000 in
set_option maxRecDepth 100000 in
theorem ctX12_puts (l : Launch) (dC : Nat → ClassId) (dI : Nat → Nat → Nat) (cI cC cJ : ClassId) (aMo aMo_text aMo_from aMo_to aMo_stack aMo_memory aMo_out aMo_names aMo_starts aMo_sizes aMo_kind aMo_what aMo_running aMo_at aMo_limits aMo_counts aMo_owner aMo_open : Nat) (sz : Nat) (Mo_length : Int32) (Mo_words : Int32) (Mo_height : Int32) (Mo_outs : Int32) (Mo_defined : Int32) (Mo_deep : Int32) (Mo_loops : Int32) (Mo_steps : Int32) (Mo_fault : Int32) (Mo_place : Int32)  (rr : Int32)  (h : fnX12_puts Mo_outs  = some rr) : Met l yX12_puts wsX12_puts rmX12_puts (va_Pc [.ref aMo] (fun U => U.heap.size = sz ∧ va_P (dC, dI) vwCl [(aMo, .inr (11, [.ref aMo_text, .int Mo_length, .ref aMo_from, .ref aMo_to, .int Mo_words, .ref aMo_stack, .int Mo_height, .ref aMo_memory, .ref aMo_out, .int Mo_outs, .ref aMo_names, .ref aMo_starts, .ref aMo_sizes, .int Mo_defined, .ref aMo_kind, .ref aMo_what, .ref aMo_running, .ref aMo_at, .int Mo_deep, .ref aMo_limits, .ref aMo_counts, .ref aMo_owner, .int Mo_loops, .ref aMo_open, .int Mo_steps, .int Mo_fault, .int Mo_place]))] U.heap ∧ va_K (dC, dI) vwCl [(cI, .int), (cC, .char), (cJ, .long)] U ∧ va_D (fun _ => True) [(aMo, .inr (11, [.ref aMo_text, .int Mo_length, .ref aMo_from, .ref aMo_to, .int Mo_words, .ref aMo_stack, .int Mo_height, .ref aMo_memory, .ref aMo_out, .int Mo_outs, .ref aMo_names, .ref aMo_starts, .ref aMo_sizes, .int Mo_defined, .ref aMo_kind, .ref aMo_what, .ref aMo_running, .ref aMo_at, .int Mo_deep, .ref aMo_limits, .ref aMo_counts, .ref aMo_owner, .int Mo_loops, .ref aMo_open, .int Mo_steps, .int Mo_fault, .int Mo_place]))])) (va_Qi (fun r (_ : Unit) => r = rr) (fun _ t => va_P (dC, dI) vwCl [(aMo, .inr (11, [.ref aMo_text, .int Mo_length, .ref aMo_from, .ref aMo_to, .int Mo_words, .ref aMo_stack, .int Mo_height, .ref aMo_memory, .ref aMo_out, .int Mo_outs, .ref aMo_names, .ref aMo_starts, .ref aMo_sizes, .int Mo_defined, .ref aMo_kind, .ref aMo_what, .ref aMo_running, .ref aMo_at, .int Mo_deep, .ref aMo_limits, .ref aMo_counts, .ref aMo_owner, .int Mo_loops, .ref aMo_open, .int Mo_steps, .int Mo_fault, .int Mo_place]))] t.heap ∧ va_K (dC, dI) vwCl [(cI, .int), (cC, .char), (cJ, .long)] t ∧ va_D (va_A [(aMo, .inr (11, [.ref aMo_text, .int Mo_length, .ref aMo_from, .ref aMo_to, .int Mo_words, .ref aMo_stack, .int Mo_height, .ref aMo_memory, .ref aMo_out, .int Mo_outs, .ref aMo_names, .ref aMo_starts, .ref aMo_sizes, .int Mo_defined, .ref aMo_kind, .ref aMo_what, .ref aMo_running, .ref aMo_at, .int Mo_deep, .ref aMo_limits, .ref aMo_counts, .ref aMo_owner, .int Mo_loops, .ref aMo_open, .int Mo_steps, .int Mo_fault, .int Mo_place]))] sz) [(aMo, .inr (11, [.ref aMo_text, .int Mo_length, .ref aMo_from, .ref aMo_to, .int Mo_words, .ref aMo_stack, .int Mo_height, .ref aMo_memory, .ref aMo_out, .int Mo_outs, .ref aMo_names, .ref aMo_starts, .ref aMo_sizes, .int Mo_defined, .ref aMo_kind, .ref aMo_what, .ref aMo_running, .ref aMo_at, .int Mo_deep, .ref aMo_limits, .ref aMo_counts, .ref aMo_owner, .int Mo_loops, .ref aMo_open, .int Mo_steps, .int Mo_fault, .int Mo_place]))]) (va_A [(aMo, .inr (11, [.ref aMo_text, .int Mo_length, .ref aMo_from, .ref aMo_to, .int Mo_words, .ref aMo_stack, .int Mo_height, .ref aMo_memory, .ref aMo_out, .int Mo_outs, .ref aMo_names, .ref aMo_starts, .ref aMo_sizes, .int Mo_defined, .ref aMo_kind, .ref aMo_what, .ref aMo_running, .ref aMo_at, .int Mo_deep, .ref aMo_limits, .ref aMo_counts, .ref aMo_owner, .int Mo_loops, .ref aMo_open, .int Mo_steps, .int Mo_fault, .int Mo_place]))] sz)) 0 0 (va_A [(aMo, .inr (11, [.ref aMo_text, .int Mo_length, .ref aMo_from, .ref aMo_to, .int Mo_words, .ref aMo_stack, .int Mo_height, .ref aMo_memory, .ref aMo_out, .int Mo_outs, .ref aMo_names, .ref aMo_starts, .ref aMo_sizes, .int Mo_defined, .ref aMo_kind, .ref aMo_what, .ref aMo_running, .ref aMo_at, .int Mo_deep, .ref aMo_limits, .ref aMo_counts, .ref aMo_owner, .int Mo_loops, .ref aMo_open, .int Mo_steps, .int Mo_fault, .int Mo_place]))] sz) := by
  refine Met.ofW (cc := cX12_puts) (maxL := 1) (ret := (some .int)) (by decide) rfl ?_
  intro p e s m args below meth c s₁ B hml hv
  obtain ⟨hargs, hsz, hP, hK, hD0⟩ := hv
  have hx := B.exec
  have hb := B.bytes
  have hr := B.returns
  have hts := atoms_spec (ws := wsX12_puts) B.pre
  have hown : s.vm.findClass RX12 = some m.cls := findClass_of_methodNamed B.named
  have hlocks := B.notSynchronized
  subst hsz
  have hD := hD0.self (sz := s.heap.size)
  generalize hAe : va_A [(aMo, .inr (11, [.ref aMo_text, .int Mo_length, .ref aMo_from, .ref aMo_to, .int Mo_words, .ref aMo_stack, .int Mo_height, .ref aMo_memory, .ref aMo_out, .int Mo_outs, .ref aMo_names, .ref aMo_starts, .ref aMo_sizes, .int Mo_defined, .ref aMo_kind, .ref aMo_what, .ref aMo_running, .ref aMo_at, .int Mo_deep, .ref aMo_limits, .ref aMo_counts, .ref aMo_owner, .int Mo_loops, .ref aMo_open, .int Mo_steps, .int Mo_fault, .int Mo_place]))] s.heap.size = A at hD ⊢
  have hA : ∀ q : Nat, s.heap.size ≤ q → A q := fun q h => by rw [← hAe]; exact Or.inr h
  have hS : va_S A s.heap s.heap [] := va_S.rf
  have hl := lv_entry ([.ref aMo]) (n := 1) (Nat.le_of_ble_eq_true rfl)
  have hfr : entryFrame m args 1 = entryFrame m ([.ref aMo] : List Value).toArray 1 := by rw [hargs]
  rw [hfr, lg_entry_eq]
  generalize (lg_sl ([.ref aMo]) ++ List.replicate (1 - (lg_sl ([.ref aMo])).length) Slot.unset).toArray = ls at hl ⊢
  have hl : lv_has ls 1 [(0, .ref aMo)] := hl
  refine nameQ_ (fun Q hQ => ?_)
  unfold fnX12_puts at h
  refine lv_aload_n hx hb dX12_puts_0 rfl (lv_at hl 0 rfl) ?_
  refine va_get (D := (dC, dI)) (ci := 11) (v := .int Mo_outs) (C := RX12) (T := TX12) (N := 27) hx hb hts miX12_puts_X12 hown hK hP 0 rfl rfl 9 (by decide) (hts _ mbX12_puts_0) (fun _ h9 => h9) rfl dX12_puts_1 ?_
  cases h
  rw [hQ]
  exact W.iret (v := Mo_outs) hx hb hr (fun t ht hW => ⟨⟨_, (), rfl, rfl, by rw [ht]; exact hP, va_K.moved hW.alike hK, hD⟩, hS.F ht⟩) hS.2.2 dX12_puts_4
theorem mbX12_output_0 : (.constantLong RX12 303 (4294967296) : Cond) ∈ wsX12_output := by decide +kernel
theorem miX12_output_X12 : ∀ w ∈ u_ws RX12 TX12 27, w ∈ wsX12_output := by decide +kernel
theorem mbX12_output_1 : (.fieldLink RX12 198 "WordForgeModel" "outs" "I" : Cond) ∈ wsX12_output := by decide +kernel
theorem mbX12_output_2 : (.fieldLink RX12 25 "WordForgeModel" "out" "[I" : Cond) ∈ wsX12_output := by decide +kernel
abbrev rmX12_output : Room := { frames := 0, cells := 0, slots := 0, locals := 0 }
set_option maxHeartbeats 4000000 in
set_option maxRecDepth 100000 in
theorem ctX12_output (l : Launch) (dC : Nat → ClassId) (dI : Nat → Nat → Nat) (cI cC cJ : ClassId) (aMo aMo_text aMo_from aMo_to aMo_stack aMo_memory aMo_out aMo_names aMo_starts aMo_sizes aMo_kind aMo_what aMo_running aMo_at aMo_limits aMo_counts aMo_owner aMo_open : Nat) (sz : Nat) (Mo_length : Int32) (Mo_words : Int32) (Mo_height : Int32) (Mo_out : Nat → Int32) (Mo_outs : Int32) (Mo_defined : Int32) (Mo_deep : Int32) (Mo_loops : Int32) (Mo_steps : Int32) (Mo_fault : Int32) (Mo_place : Int32) (p0 : Int32) (rr : Int64)  (h : fnX12_output Mo_out Mo_outs p0 = some rr) : Met l yX12_output wsX12_output rmX12_output (va_Pc [.ref aMo, .int p0] (fun U => U.heap.size = sz ∧ va_P (dC, dI) vwCl [(aMo, .inr (11, [.ref aMo_text, .int Mo_length, .ref aMo_from, .ref aMo_to, .int Mo_words, .ref aMo_stack, .int Mo_height, .ref aMo_memory, .ref aMo_out, .int Mo_outs, .ref aMo_names, .ref aMo_starts, .ref aMo_sizes, .int Mo_defined, .ref aMo_kind, .ref aMo_what, .ref aMo_running, .ref aMo_at, .int Mo_deep, .ref aMo_limits, .ref aMo_counts, .ref aMo_owner, .int Mo_loops, .ref aMo_open, .int Mo_steps, .int Mo_fault, .int Mo_place])), (aMo_out, .inl (cI, 16, .inl Mo_out))] U.heap ∧ va_K (dC, dI) vwCl [(cI, .int), (cC, .char), (cJ, .long)] U ∧ va_D (fun _ => True) [(aMo, .inr (11, [.ref aMo_text, .int Mo_length, .ref aMo_from, .ref aMo_to, .int Mo_words, .ref aMo_stack, .int Mo_height, .ref aMo_memory, .ref aMo_out, .int Mo_outs, .ref aMo_names, .ref aMo_starts, .ref aMo_sizes, .int Mo_defined, .ref aMo_kind, .ref aMo_what, .ref aMo_running, .ref aMo_at, .int Mo_deep, .ref aMo_limits, .ref aMo_counts, .ref aMo_owner, .int Mo_loops, .ref aMo_open, .int Mo_steps, .int Mo_fault, .int Mo_place])), (aMo_out, .inl (cI, 16, .inl Mo_out))])) (va_Ql (fun r (_ : Unit) => r = rr) (fun _ t => va_P (dC, dI) vwCl [(aMo, .inr (11, [.ref aMo_text, .int Mo_length, .ref aMo_from, .ref aMo_to, .int Mo_words, .ref aMo_stack, .int Mo_height, .ref aMo_memory, .ref aMo_out, .int Mo_outs, .ref aMo_names, .ref aMo_starts, .ref aMo_sizes, .int Mo_defined, .ref aMo_kind, .ref aMo_what, .ref aMo_running, .ref aMo_at, .int Mo_deep, .ref aMo_limits, .ref aMo_counts, .ref aMo_owner, .int Mo_loops, .ref aMo_open, .int Mo_steps, .int Mo_fault, .int Mo_place])), (aMo_out, .inl (cI, 16, .inl Mo_out))] t.heap ∧ va_K (dC, dI) vwCl [(cI, .int), (cC, .char), (cJ, .long)] t ∧ va_D (va_A [(aMo, .inr (11, [.ref aMo_text, .int Mo_length, .ref aMo_from, .ref aMo_to, .int Mo_words, .ref aMo_stack, .int Mo_height, .ref aMo_memory, .ref aMo_out, .int Mo_outs, .ref aMo_names, .ref aMo_starts, .ref aMo_sizes, .int Mo_defined, .ref aMo_kind, .ref aMo_what, .ref aMo_running, .ref aMo_at, .int Mo_deep, .ref aMo_limits, .ref aMo_counts, .ref aMo_owner, .int Mo_loops, .ref aMo_open, .int Mo_steps, .int Mo_fault, .int Mo_place])), (aMo_out, .inl (cI, 16, .inl Mo_out))] sz) [(aMo, .inr (11, [.ref aMo_text, .int Mo_length, .ref aMo_from, .ref aMo_to, .int Mo_words, .ref aMo_stack, .int Mo_height, .ref aMo_memory, .ref aMo_out, .int Mo_outs, .ref aMo_names, .ref aMo_starts, .ref aMo_sizes, .int Mo_defined, .ref aMo_kind, .ref aMo_what, .ref aMo_running, .ref aMo_at, .int Mo_deep, .ref aMo_limits, .ref aMo_counts, .ref aMo_owner, .int Mo_loops, .ref aMo_open, .int Mo_steps, .int Mo_fault, .int Mo_place])), (aMo_out, .inl (cI, 16, .inl Mo_out))]) (va_A [(aMo, .inr (11, [.ref aMo_text, .int Mo_length, .ref aMo_from, .ref aMo_to, .int Mo_words, .ref aMo_stack, .int Mo_height, .ref aMo_memory, .ref aMo_out, .int Mo_outs, .ref aMo_names, .ref aMo_starts, .ref aMo_sizes, .int Mo_defined, .ref aMo_kind, .ref aMo_what, .ref aMo_running, .ref aMo_at, .int Mo_deep, .ref aMo_limits, .ref aMo_counts, .ref aMo_owner, .int Mo_loops, .ref aMo_open, .int Mo_steps, .int Mo_fault, .int Mo_place])), (aMo_out, .inl (cI, 16, .inl Mo_out))] sz)) 0 0 (va_A [(aMo, .inr (11, [.ref aMo_text, .int Mo_length, .ref aMo_from, .ref aMo_to, .int Mo_words, .ref aMo_stack, .int Mo_height, .ref aMo_memory, .ref aMo_out, .int Mo_outs, .ref aMo_names, .ref aMo_starts, .ref aMo_sizes, .int Mo_defined, .ref aMo_kind, .ref aMo_what, .ref aMo_running, .ref aMo_at, .int Mo_deep, .ref aMo_limits, .ref aMo_counts, .ref aMo_owner, .int Mo_loops, .ref aMo_open, .int Mo_steps, .int Mo_fault, .int Mo_place])), (aMo_out, .inl (cI, 16, .inl Mo_out))] sz) := by
  refine Met.ofW (cc := cX12_output) (maxL := 2) (ret := (some .long)) (by decide) rfl ?_
  intro p e s m args below meth c s₁ B hml hv
  obtain ⟨hargs, hsz, hP, hK, hD0⟩ := hv
  have hx := B.exec
  have hb := B.bytes
  have hr := B.returns
  have hts := atoms_spec (ws := wsX12_output) B.pre
  have hown : s.vm.findClass RX12 = some m.cls := findClass_of_methodNamed B.named
  have hlocks := B.notSynchronized
  subst hsz
  have hD := hD0.self (sz := s.heap.size)
  generalize hAe : va_A [(aMo, .inr (11, [.ref aMo_text, .int Mo_length, .ref aMo_from, .ref aMo_to, .int Mo_words, .ref aMo_stack, .int Mo_height, .ref aMo_memory, .ref aMo_out, .int Mo_outs, .ref aMo_names, .ref aMo_starts, .ref aMo_sizes, .int Mo_defined, .ref aMo_kind, .ref aMo_what, .ref aMo_running, .ref aMo_at, .int Mo_deep, .ref aMo_limits, .ref aMo_counts, .ref aMo_owner, .int Mo_loops, .ref aMo_open, .int Mo_steps, .int Mo_fault, .int Mo_place])), (aMo_out, .inl (cI, 16, .inl Mo_out))] s.heap.size = A at hD ⊢
  have hA : ∀ q : Nat, s.heap.size ≤ q → A q := fun q h => by rw [← hAe]; exact Or.inr h
  have hS : va_S A s.heap s.heap [] := va_S.rf
  have hl := lv_entry ([.ref aMo, .int p0]) (n := 2) (Nat.le_of_ble_eq_true rfl)
  have hfr : entryFrame m args 2 = entryFrame m ([.ref aMo, .int p0] : List Value).toArray 2 := by rw [hargs]
  rw [hfr, lg_entry_eq]
  generalize (lg_sl ([.ref aMo, .int p0]) ++ List.replicate (2 - (lg_sl ([.ref aMo, .int p0])).length) Slot.unset).toArray = ls at hl ⊢
  have hl : lv_has ls 2 [(0, .ref aMo), (1, .int p0)] := hl
  refine nameQ_ (fun Q hQ => ?_)
  unfold fnX12_output at h
  refine lv_iload_n hx hb dX12_output_0 rfl (lv_at hl 1 rfl) ?_
  refine lv_if_lt (tgt := 18) hx hb dX12_output_1 (by decide) (fun c_1 => ?_) (fun c_1 => ?_)
  · have h := it_t c_1 h
    refine lv_ldc2 (v := (4294967296 : Int64)) hx hb hown (hts _ mbX12_output_0) dX12_output_18 ?_
    refine lv_goto (tgt := 31) hx hb dX12_output_21 (by decide) ?_
    cases h
    rw [hQ]
    exact W.lret (v := (4294967296 : Int64)) hx hb hr (fun t ht hW => ⟨⟨_, (), rfl, rfl, by rw [ht]; exact hP, va_K.moved hW.alike hK, hD⟩, hS.F ht⟩) hS.2.2 dX12_output_31
  · have h := it_f c_1 h
    refine lv_iload_n hx hb dX12_output_4 rfl (lv_at hl 1 rfl) ?_
    refine lv_bipush (v := (15 : Int32)) hx hb dX12_output_5 (by decide) ?_
    refine lv_icmp_gt (tgt := 18) hx hb dX12_output_7 (by decide) (fun c_2 => ?_) (fun c_2 => ?_)
    · have h := it_t c_2 h
      refine lv_ldc2 (v := (4294967296 : Int64)) hx hb hown (hts _ mbX12_output_0) dX12_output_18 ?_
      refine lv_goto (tgt := 31) hx hb dX12_output_21 (by decide) ?_
      cases h
      rw [hQ]
      exact W.lret (v := (4294967296 : Int64)) hx hb hr (fun t ht hW => ⟨⟨_, (), rfl, rfl, by rw [ht]; exact hP, va_K.moved hW.alike hK, hD⟩, hS.F ht⟩) hS.2.2 dX12_output_31
    · have h := it_f c_2 h
      refine lv_iload_n hx hb dX12_output_10 rfl (lv_at hl 1 rfl) ?_
      refine lv_aload_n hx hb dX12_output_11 rfl (lv_at hl 0 rfl) ?_
      refine va_get (D := (dC, dI)) (ci := 11) (v := .int Mo_outs) (C := RX12) (T := TX12) (N := 27) hx hb hts miX12_output_X12 hown hK hP 0 rfl rfl 9 (by decide) (hts _ mbX12_output_1) (fun _ h9 => h9) rfl dX12_output_12 ?_
      refine lv_icmp_lt (tgt := 24) hx hb dX12_output_15 (by decide) (fun c_3 => ?_) (fun c_3 => ?_)
      · have h := it_t c_3 h
        refine lv_aload_n hx hb dX12_output_24 rfl (lv_at hl 0 rfl) ?_
        refine va_get (D := (dC, dI)) (ci := 11) (v := .ref aMo_out) (C := RX12) (T := TX12) (N := 27) hx hb hts miX12_output_X12 hown hK hP 0 rfl rfl 8 (by decide) (hts _ mbX12_output_2) (fun _ h9 => h9) rfl dX12_output_25 ?_
        refine lv_iload_n hx hb dX12_output_28 rfl (lv_at hl 1 rfl) ?_
        obtain ⟨x_4, hi_5, h⟩ := bd1_some h
        obtain ⟨hi_5, ex_6⟩ := ga_some hi_5
        refine va_iald hx hb hK hP 1 0 rfl rfl hi_5 dX12_output_29 ?_
        rw [← ex_6]
        refine lv_i2l (v := x_4.toInt64) hx hb dX12_output_30 rfl ?_
        cases h
        rw [hQ]
        exact W.lret (v := x_4.toInt64) hx hb hr (fun t ht hW => ⟨⟨_, (), rfl, rfl, by rw [ht]; exact hP, va_K.moved hW.alike hK, hD⟩, hS.F ht⟩) hS.2.2 dX12_output_31
      · have h := it_f c_3 h
        refine lv_ldc2 (v := (4294967296 : Int64)) hx hb hown (hts _ mbX12_output_0) dX12_output_18 ?_
        refine lv_goto (tgt := 31) hx hb dX12_output_21 (by decide) ?_
        cases h
        rw [hQ]
        exact W.lret (v := (4294967296 : Int64)) hx hb hr (fun t ht hW => ⟨⟨_, (), rfl, rfl, by rw [ht]; exact hP, va_K.moved hW.alike hK, hD⟩, hS.F ht⟩) hS.2.2 dX12_output_31
theorem miX12_definitions_X12 : ∀ w ∈ u_ws RX12 TX12 27, w ∈ wsX12_definitions := by decide +kernel
theorem mbX12_definitions_0 : (.fieldLink RX12 172 "WordForgeModel" "defined" "I" : Cond) ∈ wsX12_definitions := by decide +kernel
abbrev rmX12_definitions : Room := { frames := 0, cells := 0, slots := 0, locals := 0 }
set_option maxHeartbeats 4000000 in
set_option maxRecDepth 100000 in
theorem ctX12_definitions (l : Launch) (dC : Nat → ClassId) (dI : Nat → Nat → Nat) (cI cC cJ : ClassId) (aMo aMo_text aMo_from aMo_to aMo_stack aMo_memory aMo_out aMo_names aMo_starts aMo_sizes aMo_kind aMo_what aMo_running aMo_at aMo_limits aMo_counts aMo_owner aMo_open : Nat) (sz : Nat) (Mo_length : Int32) (Mo_words : Int32) (Mo_height : Int32) (Mo_outs : Int32) (Mo_defined : Int32) (Mo_deep : Int32) (Mo_loops : Int32) (Mo_steps : Int32) (Mo_fault : Int32) (Mo_place : Int32)  (rr : Int32)  (h : fnX12_definitions Mo_defined  = some rr) : Met l yX12_definitions wsX12_definitions rmX12_definitions (va_Pc [.ref aMo] (fun U => U.heap.size = sz ∧ va_P (dC, dI) vwCl [(aMo, .inr (11, [.ref aMo_text, .int Mo_length, .ref aMo_from, .ref aMo_to, .int Mo_words, .ref aMo_stack, .int Mo_height, .ref aMo_memory, .ref aMo_out, .int Mo_outs, .ref aMo_names, .ref aMo_starts, .ref aMo_sizes, .int Mo_defined, .ref aMo_kind, .ref aMo_what, .ref aMo_running, .ref aMo_at, .int Mo_deep, .ref aMo_limits, .ref aMo_counts, .ref aMo_owner, .int Mo_loops, .ref aMo_open, .int Mo_steps, .int Mo_fault, .int Mo_place]))] U.heap ∧ va_K (dC, dI) vwCl [(cI, .int), (cC, .char), (cJ, .long)] U ∧ va_D (fun _ => True) [(aMo, .inr (11, [.ref aMo_text, .int Mo_length, .ref aMo_from, .ref aMo_to, .int Mo_words, .ref aMo_stack, .int Mo_height, .ref aMo_memory, .ref aMo_out, .int Mo_outs, .ref aMo_names, .ref aMo_starts, .ref aMo_sizes, .int Mo_defined, .ref aMo_kind, .ref aMo_what, .ref aMo_running, .ref aMo_at, .int Mo_deep, .ref aMo_limits, .ref aMo_counts, .ref aMo_owner, .int Mo_loops, .ref aMo_open, .int Mo_steps, .int Mo_fault, .int Mo_place]))])) (va_Qi (fun r (_ : Unit) => r = rr) (fun _ t => va_P (dC, dI) vwCl [(aMo, .inr (11, [.ref aMo_text, .int Mo_length, .ref aMo_from, .ref aMo_to, .int Mo_words, .ref aMo_stack, .int Mo_height, .ref aMo_memory, .ref aMo_out, .int Mo_outs, .ref aMo_names, .ref aMo_starts, .ref aMo_sizes, .int Mo_defined, .ref aMo_kind, .ref aMo_what, .ref aMo_running, .ref aMo_at, .int Mo_deep, .ref aMo_limits, .ref aMo_counts, .ref aMo_owner, .int Mo_loops, .ref aMo_open, .int Mo_steps, .int Mo_fault, .int Mo_place]))] t.heap ∧ va_K (dC, dI) vwCl [(cI, .int), (cC, .char), (cJ, .long)] t ∧ va_D (va_A [(aMo, .inr (11, [.ref aMo_text, .int Mo_length, .ref aMo_from, .ref aMo_to, .int Mo_words, .ref aMo_stack, .int Mo_height, .ref aMo_memory, .ref aMo_out, .int Mo_outs, .ref aMo_names, .ref aMo_starts, .ref aMo_sizes, .int Mo_defined, .ref aMo_kind, .ref aMo_what, .ref aMo_running, .ref aMo_at, .int Mo_deep, .ref aMo_limits, .ref aMo_counts, .ref aMo_owner, .int Mo_loops, .ref aMo_open, .int Mo_steps, .int Mo_fault, .int Mo_place]))] sz) [(aMo, .inr (11, [.ref aMo_text, .int Mo_length, .ref aMo_from, .ref aMo_to, .int Mo_words, .ref aMo_stack, .int Mo_height, .ref aMo_memory, .ref aMo_out, .int Mo_outs, .ref aMo_names, .ref aMo_starts, .ref aMo_sizes, .int Mo_defined, .ref aMo_kind, .ref aMo_what, .ref aMo_running, .ref aMo_at, .int Mo_deep, .ref aMo_limits, .ref aMo_counts, .ref aMo_owner, .int Mo_loops, .ref aMo_open, .int Mo_steps, .int Mo_fault, .int Mo_place]))]) (va_A [(aMo, .inr (11, [.ref aMo_text, .int Mo_length, .ref aMo_from, .ref aMo_to, .int Mo_words, .ref aMo_stack, .int Mo_height, .ref aMo_memory, .ref aMo_out, .int Mo_outs, .ref aMo_names, .ref aMo_starts, .ref aMo_sizes, .int Mo_defined, .ref aMo_kind, .ref aMo_what, .ref aMo_running, .ref aMo_at, .int Mo_deep, .ref aMo_limits, .ref aMo_counts, .ref aMo_owner, .int Mo_loops, .ref aMo_open, .int Mo_steps, .int Mo_fault, .int Mo_place]))] sz)) 0 0 (va_A [(aMo, .inr (11, [.ref aMo_text, .int Mo_length, .ref aMo_from, .ref aMo_to, .int Mo_words, .ref aMo_stack, .int Mo_height, .ref aMo_memory, .ref aMo_out, .int Mo_outs, .ref aMo_names, .ref aMo_starts, .ref aMo_sizes, .int Mo_defined, .ref aMo_kind, .ref aMo_what, .ref aMo_running, .ref aMo_at, .int Mo_deep, .ref aMo_limits, .ref aMo_counts, .ref aMo_owner, .int Mo_loops, .ref aMo_open, .int Mo_steps, .int Mo_fault, .int Mo_place]))] sz) := by
  refine Met.ofW (cc := cX12_definitions) (maxL := 1) (ret := (some .int)) (by decide) rfl ?_
  intro p e s m args below meth c s₁ B hml hv
  obtain ⟨hargs, hsz, hP, hK, hD0⟩ := hv
  have hx := B.exec
  have hb := B.bytes
  have hr := B.returns
  have hts := atoms_spec (ws := wsX12_definitions) B.pre
  have hown : s.vm.findClass RX12 = some m.cls := findClass_of_methodNamed B.named
  have hlocks := B.notSynchronized
  subst hsz
  have hD := hD0.self (sz := s.heap.size)
  generalize hAe : va_A [(aMo, .inr (11, [.ref aMo_text, .int Mo_length, .ref aMo_from, .ref aMo_to, .int Mo_words, .ref aMo_stack, .int Mo_height, .ref aMo_memory, .ref aMo_out, .int Mo_outs, .ref aMo_names, .ref aMo_starts, .ref aMo_sizes, .int Mo_defined, .ref aMo_kind, .ref aMo_what, .ref aMo_running, .ref aMo_at, .int Mo_deep, .ref aMo_limits, .ref aMo_counts, .ref aMo_owner, .int Mo_loops, .ref aMo_open, .int Mo_steps, .int Mo_fault, .int Mo_place]))] s.heap.size = A at hD ⊢
  have hA : ∀ q : Nat, s.heap.size ≤ q → A q := fun q h => by rw [← hAe]; exact Or.inr h
  have hS : va_S A s.heap s.heap [] := va_S.rf
  have hl := lv_entry ([.ref aMo]) (n := 1) (Nat.le_of_ble_eq_true rfl)
  have hfr : entryFrame m args 1 = entryFrame m ([.ref aMo] : List Value).toArray 1 := by rw [hargs]
  rw [hfr, lg_entry_eq]
  generalize (lg_sl ([.ref aMo]) ++ List.replicate (1 - (lg_sl ([.ref aMo])).length) Slot.unset).toArray = ls at hl ⊢
  have hl : lv_has ls 1 [(0, .ref aMo)] := hl
  refine nameQ_ (fun Q hQ => ?_)
  unfold fnX12_definitions at h
  refine lv_aload_n hx hb dX12_definitions_0 rfl (lv_at hl 0 rfl) ?_
  refine va_get (D := (dC, dI)) (ci := 11) (v := .int Mo_defined) (C := RX12) (T := TX12) (N := 27) hx hb hts miX12_definitions_X12 hown hK hP 0 rfl rfl 13 (by decide) (hts _ mbX12_definitions_0) (fun _ h9 => h9) rfl dX12_definitions_1 ?_
  cases h
  rw [hQ]
  exact W.iret (v := Mo_defined) hx hb hr (fun t ht hW => ⟨⟨_, (), rfl, rfl, by rw [ht]; exact hP, va_K.moved hW.alike hK, hD⟩, hS.F ht⟩) hS.2.2 dX12_definitions_4
theorem miX12_body_X12 : ∀ w ∈ u_ws RX12 TX12 27, w ∈ wsX12_body := by decide +kernel
theorem mbX12_body_0 : (.fieldLink RX12 172 "WordForgeModel" "defined" "I" : Cond) ∈ wsX12_body := by decide +kernel
theorem mbX12_body_1 : (.fieldLink RX12 35 "WordForgeModel" "sizes" "[I" : Cond) ∈ wsX12_body := by decide +kernel
abbrev rmX12_body : Room := { frames := 0, cells := 0, slots := 0, locals := 0 }
set_option maxHeartbeats 4000000 in
set_option maxRecDepth 100000 in
theorem ctX12_body (l : Launch) (dC : Nat → ClassId) (dI : Nat → Nat → Nat) (cI cC cJ : ClassId) (aMo aMo_text aMo_from aMo_to aMo_stack aMo_memory aMo_out aMo_names aMo_starts aMo_sizes aMo_kind aMo_what aMo_running aMo_at aMo_limits aMo_counts aMo_owner aMo_open : Nat) (sz : Nat) (Mo_length : Int32) (Mo_words : Int32) (Mo_height : Int32) (Mo_outs : Int32) (Mo_sizes : Nat → Int32) (Mo_defined : Int32) (Mo_deep : Int32) (Mo_loops : Int32) (Mo_steps : Int32) (Mo_fault : Int32) (Mo_place : Int32) (p0 : Int32) (rr : Int32)  (h : fnX12_body Mo_sizes Mo_defined p0 = some rr) : Met l yX12_body wsX12_body rmX12_body (va_Pc [.ref aMo, .int p0] (fun U => U.heap.size = sz ∧ va_P (dC, dI) vwCl [(aMo, .inr (11, [.ref aMo_text, .int Mo_length, .ref aMo_from, .ref aMo_to, .int Mo_words, .ref aMo_stack, .int Mo_height, .ref aMo_memory, .ref aMo_out, .int Mo_outs, .ref aMo_names, .ref aMo_starts, .ref aMo_sizes, .int Mo_defined, .ref aMo_kind, .ref aMo_what, .ref aMo_running, .ref aMo_at, .int Mo_deep, .ref aMo_limits, .ref aMo_counts, .ref aMo_owner, .int Mo_loops, .ref aMo_open, .int Mo_steps, .int Mo_fault, .int Mo_place])), (aMo_sizes, .inl (cI, 20, .inl Mo_sizes))] U.heap ∧ va_K (dC, dI) vwCl [(cI, .int), (cC, .char), (cJ, .long)] U ∧ va_D (fun _ => True) [(aMo, .inr (11, [.ref aMo_text, .int Mo_length, .ref aMo_from, .ref aMo_to, .int Mo_words, .ref aMo_stack, .int Mo_height, .ref aMo_memory, .ref aMo_out, .int Mo_outs, .ref aMo_names, .ref aMo_starts, .ref aMo_sizes, .int Mo_defined, .ref aMo_kind, .ref aMo_what, .ref aMo_running, .ref aMo_at, .int Mo_deep, .ref aMo_limits, .ref aMo_counts, .ref aMo_owner, .int Mo_loops, .ref aMo_open, .int Mo_steps, .int Mo_fault, .int Mo_place])), (aMo_sizes, .inl (cI, 20, .inl Mo_sizes))])) (va_Qi (fun r (_ : Unit) => r = rr) (fun _ t => va_P (dC, dI) vwCl [(aMo, .inr (11, [.ref aMo_text, .int Mo_length, .ref aMo_from, .ref aMo_to, .int Mo_words, .ref aMo_stack, .int Mo_height, .ref aMo_memory, .ref aMo_out, .int Mo_outs, .ref aMo_names, .ref aMo_starts, .ref aMo_sizes, .int Mo_defined, .ref aMo_kind, .ref aMo_what, .ref aMo_running, .ref aMo_at, .int Mo_deep, .ref aMo_limits, .ref aMo_counts, .ref aMo_owner, .int Mo_loops, .ref aMo_open, .int Mo_steps, .int Mo_fault, .int Mo_place])), (aMo_sizes, .inl (cI, 20, .inl Mo_sizes))] t.heap ∧ va_K (dC, dI) vwCl [(cI, .int), (cC, .char), (cJ, .long)] t ∧ va_D (va_A [(aMo, .inr (11, [.ref aMo_text, .int Mo_length, .ref aMo_from, .ref aMo_to, .int Mo_words, .ref aMo_stack, .int Mo_height, .ref aMo_memory, .ref aMo_out, .int Mo_outs, .ref aMo_names, .ref aMo_starts, .ref aMo_sizes, .int Mo_defined, .ref aMo_kind, .ref aMo_what, .ref aMo_running, .ref aMo_at, .int Mo_deep, .ref aMo_limits, .ref aMo_counts, .ref aMo_owner, .int Mo_loops, .ref aMo_open, .int Mo_steps, .int Mo_fault, .int Mo_place])), (aMo_sizes, .inl (cI, 20, .inl Mo_sizes))] sz) [(aMo, .inr (11, [.ref aMo_text, .int Mo_length, .ref aMo_from, .ref aMo_to, .int Mo_words, .ref aMo_stack, .int Mo_height, .ref aMo_memory, .ref aMo_out, .int Mo_outs, .ref aMo_names, .ref aMo_starts, .ref aMo_sizes, .int Mo_defined, .ref aMo_kind, .ref aMo_what, .ref aMo_running, .ref aMo_at, .int Mo_deep, .ref aMo_limits, .ref aMo_counts, .ref aMo_owner, .int Mo_loops, .ref aMo_open, .int Mo_steps, .int Mo_fault, .int Mo_place])), (aMo_sizes, .inl (cI, 20, .inl Mo_sizes))]) (va_A [(aMo, .inr (11, [.ref aMo_text, .int Mo_length, .ref aMo_from, .ref aMo_to, .int Mo_words, .ref aMo_stack, .int Mo_height, .ref aMo_memory, .ref aMo_out, .int Mo_outs, .ref aMo_names, .ref aMo_starts, .ref aMo_sizes, .int Mo_defined, .ref aMo_kind, .ref aMo_what, .ref aMo_running, .ref aMo_at, .int Mo_deep, .ref aMo_limits, .ref aMo_counts, .ref aMo_owner, .int Mo_loops, .ref aMo_open, .int Mo_steps, .int Mo_fault, .int Mo_place])), (aMo_sizes, .inl (cI, 20, .inl Mo_sizes))] sz)) 0 0 (va_A [(aMo, .inr (11, [.ref aMo_text, .int Mo_length, .ref aMo_from, .ref aMo_to, .int Mo_words, .ref aMo_stack, .int Mo_height, .ref aMo_memory, .ref aMo_out, .int Mo_outs, .ref aMo_names, .ref aMo_starts, .ref aMo_sizes, .int Mo_defined, .ref aMo_kind, .ref aMo_what, .ref aMo_running, .ref aMo_at, .int Mo_deep, .ref aMo_limits, .ref aMo_counts, .ref aMo_owner, .int Mo_loops, .ref aMo_open, .int Mo_steps, .int Mo_fault, .int Mo_place])), (aMo_sizes, .inl (cI, 20, .inl Mo_sizes))] sz) := by
  refine Met.ofW (cc := cX12_body) (maxL := 2) (ret := (some .int)) (by decide) rfl ?_
  intro p e s m args below meth c s₁ B hml hv
  obtain ⟨hargs, hsz, hP, hK, hD0⟩ := hv
  have hx := B.exec
  have hb := B.bytes
  have hr := B.returns
  have hts := atoms_spec (ws := wsX12_body) B.pre
  have hown : s.vm.findClass RX12 = some m.cls := findClass_of_methodNamed B.named
  have hlocks := B.notSynchronized
  subst hsz
  have hD := hD0.self (sz := s.heap.size)
  generalize hAe : va_A [(aMo, .inr (11, [.ref aMo_text, .int Mo_length, .ref aMo_from, .ref aMo_to, .int Mo_words, .ref aMo_stack, .int Mo_height, .ref aMo_memory, .ref aMo_out, .int Mo_outs, .ref aMo_names, .ref aMo_starts, .ref aMo_sizes, .int Mo_defined, .ref aMo_kind, .ref aMo_what, .ref aMo_running, .ref aMo_at, .int Mo_deep, .ref aMo_limits, .ref aMo_counts, .ref aMo_owner, .int Mo_loops, .ref aMo_open, .int Mo_steps, .int Mo_fault, .int Mo_place])), (aMo_sizes, .inl (cI, 20, .inl Mo_sizes))] s.heap.size = A at hD ⊢
  have hA : ∀ q : Nat, s.heap.size ≤ q → A q := fun q h => by rw [← hAe]; exact Or.inr h
  have hS : va_S A s.heap s.heap [] := va_S.rf
  have hl := lv_entry ([.ref aMo, .int p0]) (n := 2) (Nat.le_of_ble_eq_true rfl)
  have hfr : entryFrame m args 2 = entryFrame m ([.ref aMo, .int p0] : List Value).toArray 2 := by rw [hargs]
  rw [hfr, lg_entry_eq]
  generalize (lg_sl ([.ref aMo, .int p0]) ++ List.replicate (2 - (lg_sl ([.ref aMo, .int p0])).length) Slot.unset).toArray = ls at hl ⊢
  have hl : lv_has ls 2 [(0, .ref aMo), (1, .int p0)] := hl
  refine nameQ_ (fun Q hQ => ?_)
  unfold fnX12_body at h
  refine lv_iload_n hx hb dX12_body_0 rfl (lv_at hl 1 rfl) ?_
  refine lv_if_lt (tgt := 12) hx hb dX12_body_1 (by decide) (fun c_1 => ?_) (fun c_1 => ?_)
  · have h := it_t c_1 h
    refine lv_iconst (v := (-1 : Int32)) hx hb dX12_body_12 (by decide) ?_
    refine lv_goto (tgt := 22) hx hb dX12_body_13 (by decide) ?_
    cases h
    rw [hQ]
    exact W.iret (v := (-1 : Int32)) hx hb hr (fun t ht hW => ⟨⟨_, (), rfl, rfl, by rw [ht]; exact hP, va_K.moved hW.alike hK, hD⟩, hS.F ht⟩) hS.2.2 dX12_body_22
  · have h := it_f c_1 h
    refine lv_iload_n hx hb dX12_body_4 rfl (lv_at hl 1 rfl) ?_
    refine lv_aload_n hx hb dX12_body_5 rfl (lv_at hl 0 rfl) ?_
    refine va_get (D := (dC, dI)) (ci := 11) (v := .int Mo_defined) (C := RX12) (T := TX12) (N := 27) hx hb hts miX12_body_X12 hown hK hP 0 rfl rfl 13 (by decide) (hts _ mbX12_body_0) (fun _ h9 => h9) rfl dX12_body_6 ?_
    refine lv_icmp_lt (tgt := 16) hx hb dX12_body_9 (by decide) (fun c_2 => ?_) (fun c_2 => ?_)
    · have h := it_t c_2 h
      refine lv_aload_n hx hb dX12_body_16 rfl (lv_at hl 0 rfl) ?_
      refine va_get (D := (dC, dI)) (ci := 11) (v := .ref aMo_sizes) (C := RX12) (T := TX12) (N := 27) hx hb hts miX12_body_X12 hown hK hP 0 rfl rfl 12 (by decide) (hts _ mbX12_body_1) (fun _ h9 => h9) rfl dX12_body_17 ?_
      refine lv_iload_n hx hb dX12_body_20 rfl (lv_at hl 1 rfl) ?_
      obtain ⟨x_3, hi_4, h⟩ := bd1_some h
      obtain ⟨hi_4, ex_5⟩ := ga_some hi_4
      refine va_iald hx hb hK hP 1 0 rfl rfl hi_4 dX12_body_21 ?_
      rw [← ex_5]
      cases h
      rw [hQ]
      exact W.iret (v := x_3) hx hb hr (fun t ht hW => ⟨⟨_, (), rfl, rfl, by rw [ht]; exact hP, va_K.moved hW.alike hK, hD⟩, hS.F ht⟩) hS.2.2 dX12_body_22
    · have h := it_f c_2 h
      refine lv_iconst (v := (-1 : Int32)) hx hb dX12_body_12 (by decide) ?_
      refine lv_goto (tgt := 22) hx hb dX12_body_13 (by decide) ?_
      cases h
      rw [hQ]
      exact W.iret (v := (-1 : Int32)) hx hb hr (fun t ht hW => ⟨⟨_, (), rfl, rfl, by rw [ht]; exact hP, va_K.moved hW.alike hK, hD⟩, hS.F ht⟩) hS.2.2 dX12_body_22
theorem mbX12_name_0 : (.constantLong RX12 72 (-1) : Cond) ∈ wsX12_name := by decide +kernel
theorem miX12_name_X12 : ∀ w ∈ u_ws RX12 TX12 27, w ∈ wsX12_name := by decide +kernel
theorem mbX12_name_1 : (.fieldLink RX12 172 "WordForgeModel" "defined" "I" : Cond) ∈ wsX12_name := by decide +kernel
theorem mbX12_name_2 : (.fieldLink RX12 28 "WordForgeModel" "names" "[J" : Cond) ∈ wsX12_name := by decide +kernel
abbrev rmX12_name : Room := { frames := 0, cells := 0, slots := 0, locals := 0 }
set_option maxHeartbeats 4000000 in
set_option maxRecDepth 100000 in
theorem ctX12_name (l : Launch) (dC : Nat → ClassId) (dI : Nat → Nat → Nat) (cI cC cJ : ClassId) (aMo aMo_text aMo_from aMo_to aMo_stack aMo_memory aMo_out aMo_names aMo_starts aMo_sizes aMo_kind aMo_what aMo_running aMo_at aMo_limits aMo_counts aMo_owner aMo_open : Nat) (sz : Nat) (Mo_length : Int32) (Mo_words : Int32) (Mo_height : Int32) (Mo_outs : Int32) (Mo_names : Nat → Int64) (Mo_defined : Int32) (Mo_deep : Int32) (Mo_loops : Int32) (Mo_steps : Int32) (Mo_fault : Int32) (Mo_place : Int32) (p0 : Int32) (rr : Int64)  (h : fnX12_name Mo_names Mo_defined p0 = some rr) : Met l yX12_name wsX12_name rmX12_name (va_Pc [.ref aMo, .int p0] (fun U => U.heap.size = sz ∧ va_P (dC, dI) vwCl [(aMo, .inr (11, [.ref aMo_text, .int Mo_length, .ref aMo_from, .ref aMo_to, .int Mo_words, .ref aMo_stack, .int Mo_height, .ref aMo_memory, .ref aMo_out, .int Mo_outs, .ref aMo_names, .ref aMo_starts, .ref aMo_sizes, .int Mo_defined, .ref aMo_kind, .ref aMo_what, .ref aMo_running, .ref aMo_at, .int Mo_deep, .ref aMo_limits, .ref aMo_counts, .ref aMo_owner, .int Mo_loops, .ref aMo_open, .int Mo_steps, .int Mo_fault, .int Mo_place])), (aMo_names, .inl (cJ, 20, .inr (.inl Mo_names)))] U.heap ∧ va_K (dC, dI) vwCl [(cI, .int), (cC, .char), (cJ, .long)] U ∧ va_D (fun _ => True) [(aMo, .inr (11, [.ref aMo_text, .int Mo_length, .ref aMo_from, .ref aMo_to, .int Mo_words, .ref aMo_stack, .int Mo_height, .ref aMo_memory, .ref aMo_out, .int Mo_outs, .ref aMo_names, .ref aMo_starts, .ref aMo_sizes, .int Mo_defined, .ref aMo_kind, .ref aMo_what, .ref aMo_running, .ref aMo_at, .int Mo_deep, .ref aMo_limits, .ref aMo_counts, .ref aMo_owner, .int Mo_loops, .ref aMo_open, .int Mo_steps, .int Mo_fault, .int Mo_place])), (aMo_names, .inl (cJ, 20, .inr (.inl Mo_names)))])) (va_Ql (fun r (_ : Unit) => r = rr) (fun _ t => va_P (dC, dI) vwCl [(aMo, .inr (11, [.ref aMo_text, .int Mo_length, .ref aMo_from, .ref aMo_to, .int Mo_words, .ref aMo_stack, .int Mo_height, .ref aMo_memory, .ref aMo_out, .int Mo_outs, .ref aMo_names, .ref aMo_starts, .ref aMo_sizes, .int Mo_defined, .ref aMo_kind, .ref aMo_what, .ref aMo_running, .ref aMo_at, .int Mo_deep, .ref aMo_limits, .ref aMo_counts, .ref aMo_owner, .int Mo_loops, .ref aMo_open, .int Mo_steps, .int Mo_fault, .int Mo_place])), (aMo_names, .inl (cJ, 20, .inr (.inl Mo_names)))] t.heap ∧ va_K (dC, dI) vwCl [(cI, .int), (cC, .char), (cJ, .long)] t ∧ va_D (va_A [(aMo, .inr (11, [.ref aMo_text, .int Mo_length, .ref aMo_from, .ref aMo_to, .int Mo_words, .ref aMo_stack, .int Mo_height, .ref aMo_memory, .ref aMo_out, .int Mo_outs, .ref aMo_names, .ref aMo_starts, .ref aMo_sizes, .int Mo_defined, .ref aMo_kind, .ref aMo_what, .ref aMo_running, .ref aMo_at, .int Mo_deep, .ref aMo_limits, .ref aMo_counts, .ref aMo_owner, .int Mo_loops, .ref aMo_open, .int Mo_steps, .int Mo_fault, .int Mo_place])), (aMo_names, .inl (cJ, 20, .inr (.inl Mo_names)))] sz) [(aMo, .inr (11, [.ref aMo_text, .int Mo_length, .ref aMo_from, .ref aMo_to, .int Mo_words, .ref aMo_stack, .int Mo_height, .ref aMo_memory, .ref aMo_out, .int Mo_outs, .ref aMo_names, .ref aMo_starts, .ref aMo_sizes, .int Mo_defined, .ref aMo_kind, .ref aMo_what, .ref aMo_running, .ref aMo_at, .int Mo_deep, .ref aMo_limits, .ref aMo_counts, .ref aMo_owner, .int Mo_loops, .ref aMo_open, .int Mo_steps, .int Mo_fault, .int Mo_place])), (aMo_names, .inl (cJ, 20, .inr (.inl Mo_names)))]) (va_A [(aMo, .inr (11, [.ref aMo_text, .int Mo_length, .ref aMo_from, .ref aMo_to, .int Mo_words, .ref aMo_stack, .int Mo_height, .ref aMo_memory, .ref aMo_out, .int Mo_outs, .ref aMo_names, .ref aMo_starts, .ref aMo_sizes, .int Mo_defined, .ref aMo_kind, .ref aMo_what, .ref aMo_running, .ref aMo_at, .int Mo_deep, .ref aMo_limits, .ref aMo_counts, .ref aMo_owner, .int Mo_loops, .ref aMo_open, .int Mo_steps, .int Mo_fault, .int Mo_place])), (aMo_names, .inl (cJ, 20, .inr (.inl Mo_names)))] sz)) 0 0 (va_A [(aMo, .inr (11, [.ref aMo_text, .int Mo_length, .ref aMo_from, .ref aMo_to, .int Mo_words, .ref aMo_stack, .int Mo_height, .ref aMo_memory, .ref aMo_out, .int Mo_outs, .ref aMo_names, .ref aMo_starts, .ref aMo_sizes, .int Mo_defined, .ref aMo_kind, .ref aMo_what, .ref aMo_running, .ref aMo_at, .int Mo_deep, .ref aMo_limits, .ref aMo_counts, .ref aMo_owner, .int Mo_loops, .ref aMo_open, .int Mo_steps, .int Mo_fault, .int Mo_place])), (aMo_names, .inl (cJ, 20, .inr (.inl Mo_names)))] sz) := by
  refine Met.ofW (cc := cX12_name) (maxL := 2) (ret := (some .long)) (by decide) rfl ?_
  intro p e s m args below meth c s₁ B hml hv
  obtain ⟨hargs, hsz, hP, hK, hD0⟩ := hv
  have hx := B.exec
  have hb := B.bytes
  have hr := B.returns
  have hts := atoms_spec (ws := wsX12_name) B.pre
  have hown : s.vm.findClass RX12 = some m.cls := findClass_of_methodNamed B.named
  have hlocks := B.notSynchronized
  subst hsz
  have hD := hD0.self (sz := s.heap.size)
  generalize hAe : va_A [(aMo, .inr (11, [.ref aMo_text, .int Mo_length, .ref aMo_from, .ref aMo_to, .int Mo_words, .ref aMo_stack, .int Mo_height, .ref aMo_memory, .ref aMo_out, .int Mo_outs, .ref aMo_names, .ref aMo_starts, .ref aMo_sizes, .int Mo_defined, .ref aMo_kind, .ref aMo_what, .ref aMo_running, .ref aMo_at, .int Mo_deep, .ref aMo_limits, .ref aMo_counts, .ref aMo_owner, .int Mo_loops, .ref aMo_open, .int Mo_steps, .int Mo_fault, .int Mo_place])), (aMo_names, .inl (cJ, 20, .inr (.inl Mo_names)))] s.heap.size = A at hD ⊢
  have hA : ∀ q : Nat, s.heap.size ≤ q → A q := fun q h => by rw [← hAe]; exact Or.inr h
  have hS : va_S A s.heap s.heap [] := va_S.rf
  have hl := lv_entry ([.ref aMo, .int p0]) (n := 2) (Nat.le_of_ble_eq_true rfl)
  have hfr : entryFrame m args 2 = entryFrame m ([.ref aMo, .int p0] : List Value).toArray 2 := by rw [hargs]
  rw [hfr, lg_entry_eq]
  generalize (lg_sl ([.ref aMo, .int p0]) ++ List.replicate (2 - (lg_sl ([.ref aMo, .int p0])).length) Slot.unset).toArray = ls at hl ⊢
  have hl : lv_has ls 2 [(0, .ref aMo), (1, .int p0)] := hl
  refine nameQ_ (fun Q hQ => ?_)
  unfold fnX12_name at h
  refine lv_iload_n hx hb dX12_name_0 rfl (lv_at hl 1 rfl) ?_
  refine lv_if_lt (tgt := 12) hx hb dX12_name_1 (by decide) (fun c_1 => ?_) (fun c_1 => ?_)
  · have h := it_t c_1 h
    refine lv_ldc2 (v := (-1 : Int64)) hx hb hown (hts _ mbX12_name_0) dX12_name_12 ?_
    refine lv_goto (tgt := 24) hx hb dX12_name_15 (by decide) ?_
    cases h
    rw [hQ]
    exact W.lret (v := (-1 : Int64)) hx hb hr (fun t ht hW => ⟨⟨_, (), rfl, rfl, by rw [ht]; exact hP, va_K.moved hW.alike hK, hD⟩, hS.F ht⟩) hS.2.2 dX12_name_24
  · have h := it_f c_1 h
    refine lv_iload_n hx hb dX12_name_4 rfl (lv_at hl 1 rfl) ?_
    refine lv_aload_n hx hb dX12_name_5 rfl (lv_at hl 0 rfl) ?_
    refine va_get (D := (dC, dI)) (ci := 11) (v := .int Mo_defined) (C := RX12) (T := TX12) (N := 27) hx hb hts miX12_name_X12 hown hK hP 0 rfl rfl 13 (by decide) (hts _ mbX12_name_1) (fun _ h9 => h9) rfl dX12_name_6 ?_
    refine lv_icmp_lt (tgt := 18) hx hb dX12_name_9 (by decide) (fun c_2 => ?_) (fun c_2 => ?_)
    · have h := it_t c_2 h
      refine lv_aload_n hx hb dX12_name_18 rfl (lv_at hl 0 rfl) ?_
      refine va_get (D := (dC, dI)) (ci := 11) (v := .ref aMo_names) (C := RX12) (T := TX12) (N := 27) hx hb hts miX12_name_X12 hown hK hP 0 rfl rfl 10 (by decide) (hts _ mbX12_name_2) (fun _ h9 => h9) rfl dX12_name_19 ?_
      refine lv_iload_n hx hb dX12_name_22 rfl (lv_at hl 1 rfl) ?_
      obtain ⟨x_3, hi_4, h⟩ := bd1_some h
      obtain ⟨hi_4, ex_5⟩ := ga_some hi_4
      refine va_lald hx hb hK hP 1 2 rfl rfl hi_4 dX12_name_23 ?_
      rw [← ex_5]
      cases h
      rw [hQ]
      exact W.lret (v := x_3) hx hb hr (fun t ht hW => ⟨⟨_, (), rfl, rfl, by rw [ht]; exact hP, va_K.moved hW.alike hK, hD⟩, hS.F ht⟩) hS.2.2 dX12_name_24
    · have h := it_f c_2 h
      refine lv_ldc2 (v := (-1 : Int64)) hx hb hown (hts _ mbX12_name_0) dX12_name_12 ?_
      refine lv_goto (tgt := 24) hx hb dX12_name_15 (by decide) ?_
      cases h
      rw [hQ]
      exact W.lret (v := (-1 : Int64)) hx hb hr (fun t ht hW => ⟨⟨_, (), rfl, rfl, by rw [ht]; exact hP, va_K.moved hW.alike hK, hD⟩, hS.F ht⟩) hS.2.2 dX12_name_24
