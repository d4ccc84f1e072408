abbrev rmX12_made : Room := { frames := 1, cells := 0, slots := 0, locals := 25 }
set_option maxHeartbeats 4000000 in
set_option maxRecDepth 100000 in
theorem ctX12_made (l : Launch) (dC : Nat → ClassId) (dI : Nat → Nat → Nat) (cI cC cJ : ClassId) (aMo aMo_text aMo_from aMo_to aMo_stack aMo_memory aMo_out aMo_names aMo_starts aMo_sizes aMo_kind aMo_what aMo_running aMo_at aMo_limits aMo_counts aMo_owner aMo_open : Nat) (sz : Nat) (Mo_length : Int32) (Mo_words : Int32) (Mo_height : Int32) (Mo_memory : Nat → Int32) (Mo_outs : Int32) (Mo_defined : Int32) (Mo_deep : Int32) (Mo_loops : Int32) (Mo_steps : Int32) (Mo_fault : Int32) (Mo_place : Int32) (p0 : Int32) (p1 : Int32) (p2 : Int32) (rr : Int64)  (h : fnX12_made Mo_memory p0 p1 p2 = some rr) : Met l yX12_made wsX12_made rmX12_made (va_Pc [.ref aMo, .int p0, .int p1, .int p2] (fun U => U.heap.size = sz ∧ va_P (dC, dI) vwCl [(aMo, .inr (11, [.ref aMo_text, .int Mo_length, .ref aMo_from, .ref aMo_to, .int Mo_words, .ref aMo_stack, .int Mo_height, .ref aMo_memory, .ref aMo_out, .int Mo_outs, .ref aMo_names, .ref aMo_starts, .ref aMo_sizes, .int Mo_defined, .ref aMo_kind, .ref aMo_what, .ref aMo_running, .ref aMo_at, .int Mo_deep, .ref aMo_limits, .ref aMo_counts, .ref aMo_owner, .int Mo_loops, .ref aMo_open, .int Mo_steps, .int Mo_fault, .int Mo_place])), (aMo_memory, .inl (cI, 16, .inl Mo_memory))] U.heap ∧ va_K (dC, dI) vwCl [(cI, .int), (cC, .char), (cJ, .long)] U ∧ va_D (fun _ => True) [(aMo, .inr (11, [.ref aMo_text, .int Mo_length, .ref aMo_from, .ref aMo_to, .int Mo_words, .ref aMo_stack, .int Mo_height, .ref aMo_memory, .ref aMo_out, .int Mo_outs, .ref aMo_names, .ref aMo_starts, .ref aMo_sizes, .int Mo_defined, .ref aMo_kind, .ref aMo_what, .ref aMo_running, .ref aMo_at, .int Mo_deep, .ref aMo_limits, .ref aMo_counts, .ref aMo_owner, .int Mo_loops, .ref aMo_open, .int Mo_steps, .int Mo_fault, .int Mo_place])), (aMo_memory, .inl (cI, 16, .inl Mo_memory))])) (va_Ql (fun r (_ : Unit) => r = rr) (fun _ t => va_P (dC, dI) vwCl [(aMo, .inr (11, [.ref aMo_text, .int Mo_length, .ref aMo_from, .ref aMo_to, .int Mo_words, .ref aMo_stack, .int Mo_height, .ref aMo_memory, .ref aMo_out, .int Mo_outs, .ref aMo_names, .ref aMo_starts, .ref aMo_sizes, .int Mo_defined, .ref aMo_kind, .ref aMo_what, .ref aMo_running, .ref aMo_at, .int Mo_deep, .ref aMo_limits, .ref aMo_counts, .ref aMo_owner, .int Mo_loops, .ref aMo_open, .int Mo_steps, .int Mo_fault, .int Mo_place])), (aMo_memory, .inl (cI, 16, .inl Mo_memory))] t.heap ∧ va_K (dC, dI) vwCl [(cI, .int), (cC, .char), (cJ, .long)] t ∧ va_D (va_A [(aMo, .inr (11, [.ref aMo_text, .int Mo_length, .ref aMo_from, .ref aMo_to, .int Mo_words, .ref aMo_stack, .int Mo_height, .ref aMo_memory, .ref aMo_out, .int Mo_outs, .ref aMo_names, .ref aMo_starts, .ref aMo_sizes, .int Mo_defined, .ref aMo_kind, .ref aMo_what, .ref aMo_running, .ref aMo_at, .int Mo_deep, .ref aMo_limits, .ref aMo_counts, .ref aMo_owner, .int Mo_loops, .ref aMo_open, .int Mo_steps, .int Mo_fault, .int Mo_place])), (aMo_memory, .inl (cI, 16, .inl Mo_memory))] sz) [(aMo, .inr (11, [.ref aMo_text, .int Mo_length, .ref aMo_from, .ref aMo_to, .int Mo_words, .ref aMo_stack, .int Mo_height, .ref aMo_memory, .ref aMo_out, .int Mo_outs, .ref aMo_names, .ref aMo_starts, .ref aMo_sizes, .int Mo_defined, .ref aMo_kind, .ref aMo_what, .ref aMo_running, .ref aMo_at, .int Mo_deep, .ref aMo_limits, .ref aMo_counts, .ref aMo_owner, .int Mo_loops, .ref aMo_open, .int Mo_steps, .int Mo_fault, .int Mo_place])), (aMo_memory, .inl (cI, 16, .inl Mo_memory))]) (va_A [(aMo, .inr (11, [.ref aMo_text, .int Mo_length, .ref aMo_from, .ref aMo_to, .int Mo_words, .ref aMo_stack, .int Mo_height, .ref aMo_memory, .ref aMo_out, .int Mo_outs, .ref aMo_names, .ref aMo_starts, .ref aMo_sizes, .int Mo_defined, .ref aMo_kind, .ref aMo_what, .ref aMo_running, .ref aMo_at, .int Mo_deep, .ref aMo_limits, .ref aMo_counts, .ref aMo_owner, .int Mo_loops, .ref aMo_open, .int Mo_steps, .int Mo_fault, .int Mo_place])), (aMo_memory, .inl (cI, 16, .inl Mo_memory))] sz)) 0 0 (va_A [(aMo, .inr (11, [.ref aMo_text, .int Mo_length, .ref aMo_from, .ref aMo_to, .int Mo_words, .ref aMo_stack, .int Mo_height, .ref aMo_memory, .ref aMo_out, .int Mo_outs, .ref aMo_names, .ref aMo_starts, .ref aMo_sizes, .int Mo_defined, .ref aMo_kind, .ref aMo_what, .ref aMo_running, .ref aMo_at, .int Mo_deep, .ref aMo_limits, .ref aMo_counts, .ref aMo_owner, .int Mo_loops, .ref aMo_open, .int Mo_steps, .int Mo_fault, .int Mo_place])), (aMo_memory, .inl (cI, 16, .inl Mo_memory))] sz) := by
  refine Met.ofW (cc := cX12_made) (maxL := 4) (ret := (some .long)) (by decide) rfl ?_
  intro p e s m args below meth c s₁ B hml hv
  obtain ⟨hargs, hsz, hP, hK, hD0⟩ := hv
  have hx := B.exec
  have hb := B.bytes
  have hr := B.returns
  have hts := atoms_spec (ws := wsX12_made) B.pre
  have hown : s.vm.findClass RX12 = some m.cls := findClass_of_methodNamed B.named
  have hlocks := B.notSynchronized
  subst hsz
  have hD := hD0.self (sz := s.heap.size)
  generalize hAe : va_A [(aMo, .inr (11, [.ref aMo_text, .int Mo_length, .ref aMo_from, .ref aMo_to, .int Mo_words, .ref aMo_stack, .int Mo_height, .ref aMo_memory, .ref aMo_out, .int Mo_outs, .ref aMo_names, .ref aMo_starts, .ref aMo_sizes, .int Mo_defined, .ref aMo_kind, .ref aMo_what, .ref aMo_running, .ref aMo_at, .int Mo_deep, .ref aMo_limits, .ref aMo_counts, .ref aMo_owner, .int Mo_loops, .ref aMo_open, .int Mo_steps, .int Mo_fault, .int Mo_place])), (aMo_memory, .inl (cI, 16, .inl Mo_memory))] s.heap.size = A at hD ⊢
  have hA : ∀ q : Nat, s.heap.size ≤ q → A q := fun q h => by rw [← hAe]; exact Or.inr h
  have hS : va_S A s.heap s.heap [] := va_S.rf
  have hl := lv_entry ([.ref aMo, .int p0, .int p1, .int p2]) (n := 4) (Nat.le_of_ble_eq_true rfl)
  have hfr : entryFrame m args 4 = entryFrame m ([.ref aMo, .int p0, .int p1, .int p2] : List Value).toArray 4 := by rw [hargs]
  rw [hfr, lg_entry_eq]
  generalize (lg_sl ([.ref aMo, .int p0, .int p1, .int p2]) ++ List.replicate (4 - (lg_sl ([.ref aMo, .int p0, .int p1, .int p2])).length) Slot.unset).toArray = ls at hl ⊢
  have hl : lv_has ls 4 [(0, .ref aMo), (1, .int p0), (2, .int p1), (3, .int p2)] := hl
  refine nameQ_ (fun Q hQ => ?_)
  unfold fnX12_made at h
  refine lv_iload_n hx hb dX12_made_0 rfl (lv_at hl 1 rfl) ?_
  by_cases c_1 : p0 = (9 : Int32)
  · have h := it_t c_1 h
    refine lv_tableIn (tgt := 96) (off := 95) hx hb dX12_made_1 (by rw [c_1]; decide) (by rw [c_1]; decide) (by rw [c_1]; first | decide | rfl) (by decide) ?_
    refine lv_iload_n hx hb dX12_made_96 rfl (lv_at hl 2 rfl) ?_
    refine lv_i2l (v := p1.toInt64) hx hb dX12_made_97 rfl ?_
    refine lv_iload_n hx hb dX12_made_98 rfl (lv_at hl 3 rfl) ?_
    refine lv_i2l (v := p2.toInt64) hx hb dX12_made_99 rfl ?_
    refine lv_ladd hx hb dX12_made_100 ?_
    cases h
    rw [hQ]
    exact W.lret hx hb hr (fun t ht hW => ⟨⟨_, (), rfl, rfl, by rw [ht]; exact hP, va_K.moved hW.alike hK, hD⟩, hS.F ht⟩) hS.2.2 dX12_made_101
  have h := it_f c_1 h
  by_cases c_2 : p0 = (10 : Int32)
  · have h := it_t c_2 h
    refine lv_tableIn (tgt := 102) (off := 101) hx hb dX12_made_1 (by rw [c_2]; decide) (by rw [c_2]; decide) (by rw [c_2]; first | decide | rfl) (by decide) ?_
    refine lv_iload_n hx hb dX12_made_102 rfl (lv_at hl 2 rfl) ?_
    refine lv_i2l (v := p1.toInt64) hx hb dX12_made_103 rfl ?_
    refine lv_iload_n hx hb dX12_made_104 rfl (lv_at hl 3 rfl) ?_
    refine lv_i2l (v := p2.toInt64) hx hb dX12_made_105 rfl ?_
    refine lv_lsub hx hb dX12_made_106 ?_
    cases h
    rw [hQ]
    exact W.lret hx hb hr (fun t ht hW => ⟨⟨_, (), rfl, rfl, by rw [ht]; exact hP, va_K.moved hW.alike hK, hD⟩, hS.F ht⟩) hS.2.2 dX12_made_107
  have h := it_f c_2 h
  by_cases c_3 : p0 = (11 : Int32)
  · have h := it_t c_3 h
    refine lv_tableIn (tgt := 108) (off := 107) hx hb dX12_made_1 (by rw [c_3]; decide) (by rw [c_3]; decide) (by rw [c_3]; first | decide | rfl) (by decide) ?_
    refine lv_iload_n hx hb dX12_made_108 rfl (lv_at hl 2 rfl) ?_
    refine lv_i2l (v := p1.toInt64) hx hb dX12_made_109 rfl ?_
    refine lv_iload_n hx hb dX12_made_110 rfl (lv_at hl 3 rfl) ?_
    refine lv_i2l (v := p2.toInt64) hx hb dX12_made_111 rfl ?_
    refine lv_lmul hx hb dX12_made_112 ?_
    cases h
    rw [hQ]
    exact W.lret hx hb hr (fun t ht hW => ⟨⟨_, (), rfl, rfl, by rw [ht]; exact hP, va_K.moved hW.alike hK, hD⟩, hS.F ht⟩) hS.2.2 dX12_made_113
  have h := it_f c_3 h
  by_cases c_4 : p0 = (12 : Int32)
  · have h := it_t c_4 h
    refine lv_tableIn (tgt := 114) (off := 113) hx hb dX12_made_1 (by rw [c_4]; decide) (by rw [c_4]; decide) (by rw [c_4]; first | decide | rfl) (by decide) ?_
    refine lv_iload_n hx hb dX12_made_114 rfl (lv_at hl 2 rfl) ?_
    refine lv_i2l (v := p1.toInt64) hx hb dX12_made_115 rfl ?_
    refine lv_iload_n hx hb dX12_made_116 rfl (lv_at hl 3 rfl) ?_
    refine lv_i2l (v := p2.toInt64) hx hb dX12_made_117 rfl ?_
    obtain ⟨r_5, hc_5, h⟩ := bd1_some h
    have hPc := hP.sub (ws' := []) [] rfl
    have hDc := hD.sub (ws' := []) [] (by decide) rfl
    have hFc := va_free (wc := []) hD hS hA [] rfl
    refine va_calll (va_runS (As := [.long p1.toInt64, .long p2.toInt64]) (rest := []) ⟨hx, hb, hml, hown, hts⟩ (ctX12_floor l dC dI cI cC cJ _ p1.toInt64 p2.toInt64 r_5 hc_5) (va_cwS 2 hts (gS_ hc_ mw_466 mw_467 mw_413 mw_468) rfl rfl rfl (by decide +kernel) ⟨Nat.le_of_ble_eq_true rfl, Nat.le_of_ble_eq_true rfl⟩) ⟨fun a U g mk q => by obtain ⟨q0, q1, qP, qK, qD⟩ := q; exact ⟨q0, q1, qP, va_K.moved (u := U) (U := U.calling g mk a) (Vm.Alike.refl U.vm) qK, qD⟩, fun U hU hW => ⟨rfl, by rw [hU], by rw [hU]; exact hPc, va_K.moved hW.alike hK, hDc.weaken (fun _ _ _ _ => trivial)⟩⟩ rfl rfl hl.1 rfl (lv_room (Nat.le_of_ble_eq_true rfl)) dX12_made_118 ⟨Nat.zero_le _, Nat.zero_le _⟩) hS (fun q _ h => hFc q h) hFc (fun r_5 u t H1 locs ht hvm hw hB hz1 hk1 hS => ?_)
    obtain ⟨hP1, hK1, hD1⟩ := hB
    rw [ht] at hP1
    subst hw
    obtain ⟨hP, hD⟩ := va_join (wr := [(aMo, .inr (11, [.ref aMo_text, .int Mo_length, .ref aMo_from, .ref aMo_to, .int Mo_words, .ref aMo_stack, .int Mo_height, .ref aMo_memory, .ref aMo_out, .int Mo_outs, .ref aMo_names, .ref aMo_starts, .ref aMo_sizes, .int Mo_defined, .ref aMo_kind, .ref aMo_what, .ref aMo_running, .ref aMo_at, .int Mo_deep, .ref aMo_limits, .ref aMo_counts, .ref aMo_owner, .int Mo_loops, .ref aMo_open, .int Mo_steps, .int Mo_fault, .int Mo_place])), (aMo_memory, .inl (cI, 16, .inl Mo_memory))]) (w1 := []) hP hD [] [0, 1] rfl rfl (by decide) (by decide) hk1 hFc hP1 hD1
    generalize H1 = H at hP hS ⊢
    have hP : va_P (dC, dI) vwCl [(aMo, .inr (11, [.ref aMo_text, .int Mo_length, .ref aMo_from, .ref aMo_to, .int Mo_words, .ref aMo_stack, .int Mo_height, .ref aMo_memory, .ref aMo_out, .int Mo_outs, .ref aMo_names, .ref aMo_starts, .ref aMo_sizes, .int Mo_defined, .ref aMo_kind, .ref aMo_what, .ref aMo_running, .ref aMo_at, .int Mo_deep, .ref aMo_limits, .ref aMo_counts, .ref aMo_owner, .int Mo_loops, .ref aMo_open, .int Mo_steps, .int Mo_fault, .int Mo_place])), (aMo_memory, .inl (cI, 16, .inl Mo_memory))] H := hP
    have hD : va_D A [(aMo, .inr (11, [.ref aMo_text, .int Mo_length, .ref aMo_from, .ref aMo_to, .int Mo_words, .ref aMo_stack, .int Mo_height, .ref aMo_memory, .ref aMo_out, .int Mo_outs, .ref aMo_names, .ref aMo_starts, .ref aMo_sizes, .int Mo_defined, .ref aMo_kind, .ref aMo_what, .ref aMo_running, .ref aMo_at, .int Mo_deep, .ref aMo_limits, .ref aMo_counts, .ref aMo_owner, .int Mo_loops, .ref aMo_open, .int Mo_steps, .int Mo_fault, .int Mo_place])), (aMo_memory, .inl (cI, 16, .inl Mo_memory))] := hD
    cases h
    rw [hQ]
    exact W.lret hx hb hr (fun t ht hW => ⟨⟨_, (), rfl, rfl, by rw [ht]; exact hP, va_K.moved hW.alike hK, hD⟩, hS.F ht⟩) hS.2.2 dX12_made_121
  have h := it_f c_4 h
  by_cases c_6 : p0 = (13 : Int32)
  · have h := it_t c_6 h
    refine lv_tableIn (tgt := 122) (off := 121) hx hb dX12_made_1 (by rw [c_6]; decide) (by rw [c_6]; decide) (by rw [c_6]; first | decide | rfl) (by decide) ?_
    refine lv_iload_n hx hb dX12_made_122 rfl (lv_at hl 2 rfl) ?_
    refine lv_i2l (v := p1.toInt64) hx hb dX12_made_123 rfl ?_
    refine lv_iload_n hx hb dX12_made_124 rfl (lv_at hl 3 rfl) ?_
    refine lv_i2l (v := p2.toInt64) hx hb dX12_made_125 rfl ?_
    refine lv_iload_n hx hb dX12_made_126 rfl (lv_at hl 2 rfl) ?_
    refine lv_i2l (v := p1.toInt64) hx hb dX12_made_127 rfl ?_
    refine lv_iload_n hx hb dX12_made_128 rfl (lv_at hl 3 rfl) ?_
    refine lv_i2l (v := p2.toInt64) hx hb dX12_made_129 rfl ?_
    obtain ⟨r_7, hc_7, h⟩ := bd1_some h
    have hPc := hP.sub (ws' := []) [] rfl
    have hDc := hD.sub (ws' := []) [] (by decide) rfl
    have hFc := va_free (wc := []) hD hS hA [] rfl
    refine va_calll (va_runS (As := [.long p1.toInt64, .long p2.toInt64]) (rest := [.long p2.toInt64, .long p1.toInt64]) ⟨hx, hb, hml, hown, hts⟩ (ctX12_floor l dC dI cI cC cJ _ p1.toInt64 p2.toInt64 r_7 hc_7) (va_cwS 2 hts (gS_ hc_ mw_466 mw_467 mw_413 mw_468) rfl rfl rfl (by decide +kernel) ⟨Nat.le_of_ble_eq_true rfl, Nat.le_of_ble_eq_true rfl⟩) ⟨fun a U g mk q => by obtain ⟨q0, q1, qP, qK, qD⟩ := q; exact ⟨q0, q1, qP, va_K.moved (u := U) (U := U.calling g mk a) (Vm.Alike.refl U.vm) qK, qD⟩, fun U hU hW => ⟨rfl, by rw [hU], by rw [hU]; exact hPc, va_K.moved hW.alike hK, hDc.weaken (fun _ _ _ _ => trivial)⟩⟩ rfl rfl hl.1 rfl (lv_room (Nat.le_of_ble_eq_true rfl)) dX12_made_130 ⟨Nat.zero_le _, Nat.zero_le _⟩) hS (fun q _ h => hFc q h) hFc (fun r_7 u t H1 locs ht hvm hw hB hz1 hk1 hS => ?_)
    obtain ⟨hP1, hK1, hD1⟩ := hB
    rw [ht] at hP1
    subst hw
    obtain ⟨hP, hD⟩ := va_join (wr := [(aMo, .inr (11, [.ref aMo_text, .int Mo_length, .ref aMo_from, .ref aMo_to, .int Mo_words, .ref aMo_stack, .int Mo_height, .ref aMo_memory, .ref aMo_out, .int Mo_outs, .ref aMo_names, .ref aMo_starts, .ref aMo_sizes, .int Mo_defined, .ref aMo_kind, .ref aMo_what, .ref aMo_running, .ref aMo_at, .int Mo_deep, .ref aMo_limits, .ref aMo_counts, .ref aMo_owner, .int Mo_loops, .ref aMo_open, .int Mo_steps, .int Mo_fault, .int Mo_place])), (aMo_memory, .inl (cI, 16, .inl Mo_memory))]) (w1 := []) hP hD [] [0, 1] rfl rfl (by decide) (by decide) hk1 hFc hP1 hD1
    generalize H1 = H at hP hS ⊢
    have hP : va_P (dC, dI) vwCl [(aMo, .inr (11, [.ref aMo_text, .int Mo_length, .ref aMo_from, .ref aMo_to, .int Mo_words, .ref aMo_stack, .int Mo_height, .ref aMo_memory, .ref aMo_out, .int Mo_outs, .ref aMo_names, .ref aMo_starts, .ref aMo_sizes, .int Mo_defined, .ref aMo_kind, .ref aMo_what, .ref aMo_running, .ref aMo_at, .int Mo_deep, .ref aMo_limits, .ref aMo_counts, .ref aMo_owner, .int Mo_loops, .ref aMo_open, .int Mo_steps, .int Mo_fault, .int Mo_place])), (aMo_memory, .inl (cI, 16, .inl Mo_memory))] H := hP
    have hD : va_D A [(aMo, .inr (11, [.ref aMo_text, .int Mo_length, .ref aMo_from, .ref aMo_to, .int Mo_words, .ref aMo_stack, .int Mo_height, .ref aMo_memory, .ref aMo_out, .int Mo_outs, .ref aMo_names, .ref aMo_starts, .ref aMo_sizes, .int Mo_defined, .ref aMo_kind, .ref aMo_what, .ref aMo_running, .ref aMo_at, .int Mo_deep, .ref aMo_limits, .ref aMo_counts, .ref aMo_owner, .int Mo_loops, .ref aMo_open, .int Mo_steps, .int Mo_fault, .int Mo_place])), (aMo_memory, .inl (cI, 16, .inl Mo_memory))] := hD
    refine lv_lmul hx hb dX12_made_133 ?_
    refine lv_lsub hx hb dX12_made_134 ?_
    cases h
    rw [hQ]
    exact W.lret hx hb hr (fun t ht hW => ⟨⟨_, (), rfl, rfl, by rw [ht]; exact hP, va_K.moved hW.alike hK, hD⟩, hS.F ht⟩) hS.2.2 dX12_made_135
  have h := it_f c_6 h
  by_cases c_8 : p0 = (14 : Int32)
  · have h := it_t c_8 h
    refine lv_tableIn (tgt := 136) (off := 135) hx hb dX12_made_1 (by rw [c_8]; decide) (by rw [c_8]; decide) (by rw [c_8]; first | decide | rfl) (by decide) ?_
    refine lv_iload_n hx hb dX12_made_136 rfl (lv_at hl 3 rfl) ?_
    refine lv_i2l (v := p2.toInt64) hx hb dX12_made_137 rfl ?_
    refine lv_lneg hx hb dX12_made_138 ?_
    cases h
    rw [hQ]
    exact W.lret hx hb hr (fun t ht hW => ⟨⟨_, (), rfl, rfl, by rw [ht]; exact hP, va_K.moved hW.alike hK, hD⟩, hS.F ht⟩) hS.2.2 dX12_made_139
  have h := it_f c_8 h
  by_cases c_9 : p0 = (15 : Int32)
  · have h := it_t c_9 h
    refine lv_tableIn (tgt := 140) (off := 139) hx hb dX12_made_1 (by rw [c_9]; decide) (by rw [c_9]; decide) (by rw [c_9]; first | decide | rfl) (by decide) ?_
    refine lv_iload_n hx hb dX12_made_140 rfl (lv_at hl 3 rfl) ?_
    refine lv_if_ge (tgt := 150) hx hb dX12_made_141 (by decide) (fun c_10 => ?_) (fun c_10 => ?_)
    · have h := it_t c_10 h
      refine lv_iload_n hx hb dX12_made_150 rfl (lv_at hl 3 rfl) ?_
      refine lv_i2l (v := p2.toInt64) hx hb dX12_made_151 rfl ?_
      cases h
      rw [hQ]
      exact W.lret hx hb hr (fun t ht hW => ⟨⟨_, (), rfl, rfl, by rw [ht]; exact hP, va_K.moved hW.alike hK, hD⟩, hS.F ht⟩) hS.2.2 dX12_made_152
    · have h := it_f c_10 h
      refine lv_iload_n hx hb dX12_made_144 rfl (lv_at hl 3 rfl) ?_
      refine lv_i2l (v := p2.toInt64) hx hb dX12_made_145 rfl ?_
      refine lv_lneg hx hb dX12_made_146 ?_
      refine lv_goto (tgt := 152) hx hb dX12_made_147 (by decide) ?_
      cases h
      rw [hQ]
      exact W.lret hx hb hr (fun t ht hW => ⟨⟨_, (), rfl, rfl, by rw [ht]; exact hP, va_K.moved hW.alike hK, hD⟩, hS.F ht⟩) hS.2.2 dX12_made_152
  have h := it_f c_9 h
  by_cases c_11 : p0 = (16 : Int32)
  · have h := it_t c_11 h
    refine lv_tableIn (tgt := 153) (off := 152) hx hb dX12_made_1 (by rw [c_11]; decide) (by rw [c_11]; decide) (by rw [c_11]; first | decide | rfl) (by decide) ?_
    refine lv_iload_n hx hb dX12_made_153 rfl (lv_at hl 2 rfl) ?_
    refine lv_iload_n hx hb dX12_made_154 rfl (lv_at hl 3 rfl) ?_
    refine lv_icmp_ge (tgt := 163) hx hb dX12_made_155 (by decide) (fun c_12 => ?_) (fun c_12 => ?_)
    · have h := it_t c_12 h
      refine lv_iload_n hx hb dX12_made_163 rfl (lv_at hl 3 rfl) ?_
      refine lv_i2l (v := p2.toInt64) hx hb dX12_made_164 rfl ?_
      cases h
      rw [hQ]
      exact W.lret hx hb hr (fun t ht hW => ⟨⟨_, (), rfl, rfl, by rw [ht]; exact hP, va_K.moved hW.alike hK, hD⟩, hS.F ht⟩) hS.2.2 dX12_made_165
    · have h := it_f c_12 h
      refine lv_iload_n hx hb dX12_made_158 rfl (lv_at hl 2 rfl) ?_
      refine lv_i2l (v := p1.toInt64) hx hb dX12_made_159 rfl ?_
      refine lv_goto (tgt := 165) hx hb dX12_made_160 (by decide) ?_
      cases h
      rw [hQ]
      exact W.lret hx hb hr (fun t ht hW => ⟨⟨_, (), rfl, rfl, by rw [ht]; exact hP, va_K.moved hW.alike hK, hD⟩, hS.F ht⟩) hS.2.2 dX12_made_165
  have h := it_f c_11 h
  by_cases c_13 : p0 = (17 : Int32)
  · have h := it_t c_13 h
    refine lv_tableIn (tgt := 166) (off := 165) hx hb dX12_made_1 (by rw [c_13]; decide) (by rw [c_13]; decide) (by rw [c_13]; first | decide | rfl) (by decide) ?_
    refine lv_iload_n hx hb dX12_made_166 rfl (lv_at hl 2 rfl) ?_
    refine lv_iload_n hx hb dX12_made_167 rfl (lv_at hl 3 rfl) ?_
    refine lv_icmp_le (tgt := 176) hx hb dX12_made_168 (by decide) (fun c_14 => ?_) (fun c_14 => ?_)
    · have h := it_t c_14 h
      refine lv_iload_n hx hb dX12_made_176 rfl (lv_at hl 3 rfl) ?_
      refine lv_i2l (v := p2.toInt64) hx hb dX12_made_177 rfl ?_
      cases h
      rw [hQ]
      exact W.lret hx hb hr (fun t ht hW => ⟨⟨_, (), rfl, rfl, by rw [ht]; exact hP, va_K.moved hW.alike hK, hD⟩, hS.F ht⟩) hS.2.2 dX12_made_178
    · have h := it_f c_14 h
      refine lv_iload_n hx hb dX12_made_171 rfl (lv_at hl 2 rfl) ?_
      refine lv_i2l (v := p1.toInt64) hx hb dX12_made_172 rfl ?_
      refine lv_goto (tgt := 178) hx hb dX12_made_173 (by decide) ?_
      cases h
      rw [hQ]
      exact W.lret hx hb hr (fun t ht hW => ⟨⟨_, (), rfl, rfl, by rw [ht]; exact hP, va_K.moved hW.alike hK, hD⟩, hS.F ht⟩) hS.2.2 dX12_made_178
  have h := it_f c_13 h
  by_cases c_15 : p0 = (18 : Int32)
  · have h := it_t c_15 h
    refine lv_tableIn (tgt := 179) (off := 178) hx hb dX12_made_1 (by rw [c_15]; decide) (by rw [c_15]; decide) (by rw [c_15]; first | decide | rfl) (by decide) ?_
    refine lv_iload_n hx hb dX12_made_179 rfl (lv_at hl 2 rfl) ?_
    refine lv_iload_n hx hb dX12_made_180 rfl (lv_at hl 3 rfl) ?_
    refine lv_iand hx hb dX12_made_181 ?_
    refine lv_i2l (v := (p1 &&& p2).toInt64) hx hb dX12_made_182 rfl ?_
    cases h
    rw [hQ]
    exact W.lret hx hb hr (fun t ht hW => ⟨⟨_, (), rfl, rfl, by rw [ht]; exact hP, va_K.moved hW.alike hK, hD⟩, hS.F ht⟩) hS.2.2 dX12_made_183
  have h := it_f c_15 h
  by_cases c_16 : p0 = (19 : Int32)
  · have h := it_t c_16 h
    refine lv_tableIn (tgt := 184) (off := 183) hx hb dX12_made_1 (by rw [c_16]; decide) (by rw [c_16]; decide) (by rw [c_16]; first | decide | rfl) (by decide) ?_
    refine lv_iload_n hx hb dX12_made_184 rfl (lv_at hl 2 rfl) ?_
    refine lv_iload_n hx hb dX12_made_185 rfl (lv_at hl 3 rfl) ?_
    refine lv_ior hx hb dX12_made_186 ?_
    refine lv_i2l (v := (p1 ||| p2).toInt64) hx hb dX12_made_187 rfl ?_
    cases h
    rw [hQ]
    exact W.lret hx hb hr (fun t ht hW => ⟨⟨_, (), rfl, rfl, by rw [ht]; exact hP, va_K.moved hW.alike hK, hD⟩, hS.F ht⟩) hS.2.2 dX12_made_188
  have h := it_f c_16 h
  by_cases c_17 : p0 = (20 : Int32)
  · have h := it_t c_17 h
    refine lv_tableIn (tgt := 189) (off := 188) hx hb dX12_made_1 (by rw [c_17]; decide) (by rw [c_17]; decide) (by rw [c_17]; first | decide | rfl) (by decide) ?_
    refine lv_iload_n hx hb dX12_made_189 rfl (lv_at hl 2 rfl) ?_
    refine lv_iload_n hx hb dX12_made_190 rfl (lv_at hl 3 rfl) ?_
    refine lv_ixor hx hb dX12_made_191 ?_
    refine lv_i2l (v := (p1 ^^^ p2).toInt64) hx hb dX12_made_192 rfl ?_
    cases h
    rw [hQ]
    exact W.lret hx hb hr (fun t ht hW => ⟨⟨_, (), rfl, rfl, by rw [ht]; exact hP, va_K.moved hW.alike hK, hD⟩, hS.F ht⟩) hS.2.2 dX12_made_193
  have h := it_f c_17 h
  by_cases c_18 : p0 = (21 : Int32)
  · have h := it_t c_18 h
    refine lv_tableIn (tgt := 194) (off := 193) hx hb dX12_made_1 (by rw [c_18]; decide) (by rw [c_18]; decide) (by rw [c_18]; first | decide | rfl) (by decide) ?_
    refine lv_iload_n hx hb dX12_made_194 rfl (lv_at hl 3 rfl) ?_
    refine lv_iconst (v := (-1 : Int32)) hx hb dX12_made_195 (by decide) ?_
    refine lv_ixor hx hb dX12_made_196 ?_
    refine lv_i2l (v := (p2 ^^^ (-1 : Int32)).toInt64) hx hb dX12_made_197 rfl ?_
    cases h
    rw [hQ]
    exact W.lret hx hb hr (fun t ht hW => ⟨⟨_, (), rfl, rfl, by rw [ht]; exact hP, va_K.moved hW.alike hK, hD⟩, hS.F ht⟩) hS.2.2 dX12_made_198
  have h := it_f c_18 h
  by_cases c_19 : p0 = (22 : Int32)
  · have h := it_t c_19 h
    refine lv_tableIn (tgt := 199) (off := 198) hx hb dX12_made_1 (by rw [c_19]; decide) (by rw [c_19]; decide) (by rw [c_19]; first | decide | rfl) (by decide) ?_
    refine lv_iload_n hx hb dX12_made_199 rfl (lv_at hl 2 rfl) ?_
    refine lv_iload_n hx hb dX12_made_200 rfl (lv_at hl 3 rfl) ?_
    refine lv_bipush (v := (31 : Int32)) hx hb dX12_made_201 (by decide) ?_
    refine lv_iand hx hb dX12_made_203 ?_
    refine lv_ishl hx hb dX12_made_204 ?_
    refine lv_i2l (v := (p1 <<< ((p2 &&& (31 : Int32)) &&& 31)).toInt64) hx hb dX12_made_205 rfl ?_
    cases h
    rw [hQ]
    exact W.lret hx hb hr (fun t ht hW => ⟨⟨_, (), rfl, rfl, by rw [ht]; exact hP, va_K.moved hW.alike hK, hD⟩, hS.F ht⟩) hS.2.2 dX12_made_206
  have h := it_f c_19 h
  by_cases c_20 : p0 = (23 : Int32)
  · have h := it_t c_20 h
    refine lv_tableIn (tgt := 207) (off := 206) hx hb dX12_made_1 (by rw [c_20]; decide) (by rw [c_20]; decide) (by rw [c_20]; first | decide | rfl) (by decide) ?_
    refine lv_iload_n hx hb dX12_made_207 rfl (lv_at hl 2 rfl) ?_
    refine lv_iload_n hx hb dX12_made_208 rfl (lv_at hl 3 rfl) ?_
    refine lv_bipush (v := (31 : Int32)) hx hb dX12_made_209 (by decide) ?_
    refine lv_iand hx hb dX12_made_211 ?_
    refine lv_iushr (v := (p1.toUInt32 >>> ((p2 &&& (31 : Int32)).toUInt32 &&& Int32.toUInt32 31)).toInt32) hx hb dX12_made_212 rfl ?_
    refine lv_i2l (v := ((p1.toUInt32 >>> ((p2 &&& (31 : Int32)).toUInt32 &&& Int32.toUInt32 31)).toInt32).toInt64) hx hb dX12_made_213 rfl ?_
    cases h
    rw [hQ]
    exact W.lret hx hb hr (fun t ht hW => ⟨⟨_, (), rfl, rfl, by rw [ht]; exact hP, va_K.moved hW.alike hK, hD⟩, hS.F ht⟩) hS.2.2 dX12_made_214
  have h := it_f c_20 h
  by_cases c_21 : p0 = (24 : Int32)
  · have h := it_t c_21 h
    refine lv_tableIn (tgt := 215) (off := 214) hx hb dX12_made_1 (by rw [c_21]; decide) (by rw [c_21]; decide) (by rw [c_21]; first | decide | rfl) (by decide) ?_
    refine lv_iload_n hx hb dX12_made_215 rfl (lv_at hl 2 rfl) ?_
    refine lv_iload_n hx hb dX12_made_216 rfl (lv_at hl 3 rfl) ?_
    refine lv_icmp_ne (tgt := 226) hx hb dX12_made_217 (by decide) (fun c_22 => ?_) (fun c_22 => ?_)
    · have h := it_f c_22 h
      refine lv_lconst (v := (0 : Int64)) hx hb dX12_made_226 (by decide) ?_
      cases h
      rw [hQ]
      exact W.lret hx hb hr (fun t ht hW => ⟨⟨_, (), rfl, rfl, by rw [ht]; exact hP, va_K.moved hW.alike hK, hD⟩, hS.F ht⟩) hS.2.2 dX12_made_227
    · have h := it_t c_22 h
      refine lv_ldc2 (v := (-1 : Int64)) hx hb hown (hts _ (List.mem_cons_of_mem _ mw_410)) dX12_made_220 ?_
      refine lv_goto (tgt := 227) hx hb dX12_made_223 (by decide) ?_
      cases h
      rw [hQ]
      exact W.lret hx hb hr (fun t ht hW => ⟨⟨_, (), rfl, rfl, by rw [ht]; exact hP, va_K.moved hW.alike hK, hD⟩, hS.F ht⟩) hS.2.2 dX12_made_227
  have h := it_f c_21 h
  by_cases c_23 : p0 = (25 : Int32)
  · have h := it_t c_23 h
    refine lv_tableIn (tgt := 228) (off := 227) hx hb dX12_made_1 (by rw [c_23]; decide) (by rw [c_23]; decide) (by rw [c_23]; first | decide | rfl) (by decide) ?_
    refine lv_iload_n hx hb dX12_made_228 rfl (lv_at hl 2 rfl) ?_
    refine lv_iload_n hx hb dX12_made_229 rfl (lv_at hl 3 rfl) ?_
    refine lv_icmp_ge (tgt := 239) hx hb dX12_made_230 (by decide) (fun c_24 => ?_) (fun c_24 => ?_)
    · have h := it_t c_24 h
      refine lv_lconst (v := (0 : Int64)) hx hb dX12_made_239 (by decide) ?_
      cases h
      rw [hQ]
      exact W.lret hx hb hr (fun t ht hW => ⟨⟨_, (), rfl, rfl, by rw [ht]; exact hP, va_K.moved hW.alike hK, hD⟩, hS.F ht⟩) hS.2.2 dX12_made_240
    · have h := it_f c_24 h
      refine lv_ldc2 (v := (-1 : Int64)) hx hb hown (hts _ (List.mem_cons_of_mem _ mw_410)) dX12_made_233 ?_
      refine lv_goto (tgt := 240) hx hb dX12_made_236 (by decide) ?_
      cases h
      rw [hQ]
      exact W.lret hx hb hr (fun t ht hW => ⟨⟨_, (), rfl, rfl, by rw [ht]; exact hP, va_K.moved hW.alike hK, hD⟩, hS.F ht⟩) hS.2.2 dX12_made_240
  have h := it_f c_23 h
  by_cases c_25 : p0 = (26 : Int32)
  · have h := it_t c_25 h
    refine lv_tableIn (tgt := 241) (off := 240) hx hb dX12_made_1 (by rw [c_25]; decide) (by rw [c_25]; decide) (by rw [c_25]; first | decide | rfl) (by decide) ?_
    refine lv_iload_n hx hb dX12_made_241 rfl (lv_at hl 2 rfl) ?_
    refine lv_iload_n hx hb dX12_made_242 rfl (lv_at hl 3 rfl) ?_
    refine lv_icmp_le (tgt := 252) hx hb dX12_made_243 (by decide) (fun c_26 => ?_) (fun c_26 => ?_)
    · have h := it_t c_26 h
      refine lv_lconst (v := (0 : Int64)) hx hb dX12_made_252 (by decide) ?_
      cases h
      rw [hQ]
      exact W.lret hx hb hr (fun t ht hW => ⟨⟨_, (), rfl, rfl, by rw [ht]; exact hP, va_K.moved hW.alike hK, hD⟩, hS.F ht⟩) hS.2.2 dX12_made_253
    · have h := it_f c_26 h
      refine lv_ldc2 (v := (-1 : Int64)) hx hb hown (hts _ (List.mem_cons_of_mem _ mw_410)) dX12_made_246 ?_
      refine lv_goto (tgt := 253) hx hb dX12_made_249 (by decide) ?_
      cases h
      rw [hQ]
      exact W.lret hx hb hr (fun t ht hW => ⟨⟨_, (), rfl, rfl, by rw [ht]; exact hP, va_K.moved hW.alike hK, hD⟩, hS.F ht⟩) hS.2.2 dX12_made_253
  have h := it_f c_25 h
  by_cases c_27 : p0 = (27 : Int32)
  · have h := it_t c_27 h
    refine lv_tableIn (tgt := 254) (off := 253) hx hb dX12_made_1 (by rw [c_27]; decide) (by rw [c_27]; decide) (by rw [c_27]; first | decide | rfl) (by decide) ?_
    refine lv_iload_n hx hb dX12_made_254 rfl (lv_at hl 3 rfl) ?_
    refine lv_if_ne (tgt := 264) hx hb dX12_made_255 (by decide) (fun c_28 => ?_) (fun c_28 => ?_)
    · have h := it_f c_28 h
      refine lv_lconst (v := (0 : Int64)) hx hb dX12_made_264 (by decide) ?_
      cases h
      rw [hQ]
      exact W.lret hx hb hr (fun t ht hW => ⟨⟨_, (), rfl, rfl, by rw [ht]; exact hP, va_K.moved hW.alike hK, hD⟩, hS.F ht⟩) hS.2.2 dX12_made_265
    · have h := it_t c_28 h
      refine lv_ldc2 (v := (-1 : Int64)) hx hb hown (hts _ (List.mem_cons_of_mem _ mw_410)) dX12_made_258 ?_
      refine lv_goto (tgt := 265) hx hb dX12_made_261 (by decide) ?_
      cases h
      rw [hQ]
      exact W.lret hx hb hr (fun t ht hW => ⟨⟨_, (), rfl, rfl, by rw [ht]; exact hP, va_K.moved hW.alike hK, hD⟩, hS.F ht⟩) hS.2.2 dX12_made_265
  have h := it_f c_27 h
  by_cases c_29 : p0 = (28 : Int32)
  · have h := it_t c_29 h
    refine lv_tableIn (tgt := 266) (off := 265) hx hb dX12_made_1 (by rw [c_29]; decide) (by rw [c_29]; decide) (by rw [c_29]; first | decide | rfl) (by decide) ?_
    refine lv_iload_n hx hb dX12_made_266 rfl (lv_at hl 3 rfl) ?_
    refine lv_if_ge (tgt := 276) hx hb dX12_made_267 (by decide) (fun c_30 => ?_) (fun c_30 => ?_)
    · have h := it_t c_30 h
      refine lv_lconst (v := (0 : Int64)) hx hb dX12_made_276 (by decide) ?_
      cases h
      rw [hQ]
      exact W.lret hx hb hr (fun t ht hW => ⟨⟨_, (), rfl, rfl, by rw [ht]; exact hP, va_K.moved hW.alike hK, hD⟩, hS.F ht⟩) hS.2.2 dX12_made_277
    · have h := it_f c_30 h
      refine lv_ldc2 (v := (-1 : Int64)) hx hb hown (hts _ (List.mem_cons_of_mem _ mw_410)) dX12_made_270 ?_
      refine lv_goto (tgt := 277) hx hb dX12_made_273 (by decide) ?_
      cases h
      rw [hQ]
      exact W.lret hx hb hr (fun t ht hW => ⟨⟨_, (), rfl, rfl, by rw [ht]; exact hP, va_K.moved hW.alike hK, hD⟩, hS.F ht⟩) hS.2.2 dX12_made_277
  have h := it_f c_29 h
  have c_1 := lv_neT (a := 9) c_1 (by decide)
  have c_2 := lv_neT (a := 10) c_2 (by decide)
  have c_3 := lv_neT (a := 11) c_3 (by decide)
  have c_4 := lv_neT (a := 12) c_4 (by decide)
  have c_6 := lv_neT (a := 13) c_6 (by decide)
  have c_8 := lv_neT (a := 14) c_8 (by decide)
  have c_9 := lv_neT (a := 15) c_9 (by decide)
  have c_11 := lv_neT (a := 16) c_11 (by decide)
  have c_13 := lv_neT (a := 17) c_13 (by decide)
  have c_15 := lv_neT (a := 18) c_15 (by decide)
  have c_16 := lv_neT (a := 19) c_16 (by decide)
  have c_17 := lv_neT (a := 20) c_17 (by decide)
  have c_18 := lv_neT (a := 21) c_18 (by decide)
  have c_19 := lv_neT (a := 22) c_19 (by decide)
  have c_20 := lv_neT (a := 23) c_20 (by decide)
  have c_21 := lv_neT (a := 24) c_21 (by decide)
  have c_23 := lv_neT (a := 25) c_23 (by decide)
  have c_25 := lv_neT (a := 26) c_25 (by decide)
  have c_27 := lv_neT (a := 27) c_27 (by decide)
  have c_29 := lv_neT (a := 28) c_29 (by decide)
  refine lv_tableOut (tgt := 278) hx hb dX12_made_1 (by omega) (by decide) ?_
  refine lv_aload_n hx hb dX12_made_278 rfl (lv_at hl 0 rfl) ?_
  refine va_get (D := (dC, dI)) (ci := 11) (v := .ref aMo_memory) (C := RX12) (T := TX12) (N := 27) hx hb hts (fun w h => List.mem_cons_of_mem _ (inX12 w h)) hown hK hP 0 rfl rfl 7 (by decide) (hts _ (List.mem_cons_of_mem _ mw_469)) (fun _ h9 => h9) rfl dX12_made_279 ?_
  refine lv_iload_n hx hb dX12_made_282 rfl (lv_at hl 3 rfl) ?_
  obtain ⟨x_31, hi_32, h⟩ := bd1_some h
  obtain ⟨hi_32, ex_33⟩ := ga_some hi_32
  refine va_iald hx hb hK hP 1 0 rfl rfl hi_32 dX12_made_283 ?_
  rw [← ex_33]
  refine lv_i2l (v := x_31.toInt64) hx hb dX12_made_284 rfl ?_
  cases h
  rw [hQ]
  exact W.lret hx hb hr (fun t ht hW => ⟨⟨_, (), rfl, rfl, by rw [ht]; exact hP, va_K.moved hW.alike hK, hD⟩, hS.F ht⟩) hS.2.2 dX12_made_285
