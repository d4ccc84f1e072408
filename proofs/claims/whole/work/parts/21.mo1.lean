abbrev rmX12_number : Room := { frames := 0, cells := 0, slots := 0, locals := 0 }
set_option maxHeartbeats 4000000 in
set_option maxRecDepth 100000 in
theorem ctX12_number (l : Launch) (dC : Nat → ClassId) (dI : Nat → Nat → Nat) (cI cC cJ : ClassId) (aMo aMo_text aMo_from aMo_to aMo_stack aMo_memory aMo_out aMo_names aMo_starts aMo_sizes aMo_kind aMo_what aMo_running aMo_at aMo_limits aMo_counts aMo_owner aMo_open : Nat) (sz : Nat) (Mo_text : Nat → Int32) (Mo_length : Int32) (Mo_from : Nat → Int32) (Mo_to : Nat → Int32) (Mo_words : Int32) (Mo_height : Int32) (Mo_outs : Int32) (Mo_defined : Int32) (Mo_deep : Int32) (Mo_loops : Int32) (Mo_steps : Int32) (Mo_fault : Int32) (Mo_place : Int32) (p0 : Int32) (rr : Int32)  (h : fnX12_number Mo_text Mo_from Mo_to p0 = some rr) : Met l yX12_number wsX12_number rmX12_number (va_Pc [.ref aMo, .int p0] (fun U => U.heap.size = sz ∧ va_P (dC, dI) vwCl [(aMo, .inr (11, [.ref aMo_text, .int Mo_length, .ref aMo_from, .ref aMo_to, .int Mo_words, .ref aMo_stack, .int Mo_height, .ref aMo_memory, .ref aMo_out, .int Mo_outs, .ref aMo_names, .ref aMo_starts, .ref aMo_sizes, .int Mo_defined, .ref aMo_kind, .ref aMo_what, .ref aMo_running, .ref aMo_at, .int Mo_deep, .ref aMo_limits, .ref aMo_counts, .ref aMo_owner, .int Mo_loops, .ref aMo_open, .int Mo_steps, .int Mo_fault, .int Mo_place])), (aMo_text, .inl (cI, 300, .inl Mo_text)), (aMo_from, .inl (cI, 150, .inl Mo_from)), (aMo_to, .inl (cI, 150, .inl Mo_to))] U.heap ∧ va_K (dC, dI) vwCl [(cI, .int), (cC, .char), (cJ, .long)] U ∧ va_D (fun _ => True) [(aMo, .inr (11, [.ref aMo_text, .int Mo_length, .ref aMo_from, .ref aMo_to, .int Mo_words, .ref aMo_stack, .int Mo_height, .ref aMo_memory, .ref aMo_out, .int Mo_outs, .ref aMo_names, .ref aMo_starts, .ref aMo_sizes, .int Mo_defined, .ref aMo_kind, .ref aMo_what, .ref aMo_running, .ref aMo_at, .int Mo_deep, .ref aMo_limits, .ref aMo_counts, .ref aMo_owner, .int Mo_loops, .ref aMo_open, .int Mo_steps, .int Mo_fault, .int Mo_place])), (aMo_text, .inl (cI, 300, .inl Mo_text)), (aMo_from, .inl (cI, 150, .inl Mo_from)), (aMo_to, .inl (cI, 150, .inl Mo_to))])) (va_Qi (fun r (_ : Unit) => r = rr) (fun _ t => va_P (dC, dI) vwCl [(aMo, .inr (11, [.ref aMo_text, .int Mo_length, .ref aMo_from, .ref aMo_to, .int Mo_words, .ref aMo_stack, .int Mo_height, .ref aMo_memory, .ref aMo_out, .int Mo_outs, .ref aMo_names, .ref aMo_starts, .ref aMo_sizes, .int Mo_defined, .ref aMo_kind, .ref aMo_what, .ref aMo_running, .ref aMo_at, .int Mo_deep, .ref aMo_limits, .ref aMo_counts, .ref aMo_owner, .int Mo_loops, .ref aMo_open, .int Mo_steps, .int Mo_fault, .int Mo_place])), (aMo_text, .inl (cI, 300, .inl Mo_text)), (aMo_from, .inl (cI, 150, .inl Mo_from)), (aMo_to, .inl (cI, 150, .inl Mo_to))] t.heap ∧ va_K (dC, dI) vwCl [(cI, .int), (cC, .char), (cJ, .long)] t ∧ va_D (va_A [(aMo, .inr (11, [.ref aMo_text, .int Mo_length, .ref aMo_from, .ref aMo_to, .int Mo_words, .ref aMo_stack, .int Mo_height, .ref aMo_memory, .ref aMo_out, .int Mo_outs, .ref aMo_names, .ref aMo_starts, .ref aMo_sizes, .int Mo_defined, .ref aMo_kind, .ref aMo_what, .ref aMo_running, .ref aMo_at, .int Mo_deep, .ref aMo_limits, .ref aMo_counts, .ref aMo_owner, .int Mo_loops, .ref aMo_open, .int Mo_steps, .int Mo_fault, .int Mo_place])), (aMo_text, .inl (cI, 300, .inl Mo_text)), (aMo_from, .inl (cI, 150, .inl Mo_from)), (aMo_to, .inl (cI, 150, .inl Mo_to))] sz) [(aMo, .inr (11, [.ref aMo_text, .int Mo_length, .ref aMo_from, .ref aMo_to, .int Mo_words, .ref aMo_stack, .int Mo_height, .ref aMo_memory, .ref aMo_out, .int Mo_outs, .ref aMo_names, .ref aMo_starts, .ref aMo_sizes, .int Mo_defined, .ref aMo_kind, .ref aMo_what, .ref aMo_running, .ref aMo_at, .int Mo_deep, .ref aMo_limits, .ref aMo_counts, .ref aMo_owner, .int Mo_loops, .ref aMo_open, .int Mo_steps, .int Mo_fault, .int Mo_place])), (aMo_text, .inl (cI, 300, .inl Mo_text)), (aMo_from, .inl (cI, 150, .inl Mo_from)), (aMo_to, .inl (cI, 150, .inl Mo_to))]) (va_A [(aMo, .inr (11, [.ref aMo_text, .int Mo_length, .ref aMo_from, .ref aMo_to, .int Mo_words, .ref aMo_stack, .int Mo_height, .ref aMo_memory, .ref aMo_out, .int Mo_outs, .ref aMo_names, .ref aMo_starts, .ref aMo_sizes, .int Mo_defined, .ref aMo_kind, .ref aMo_what, .ref aMo_running, .ref aMo_at, .int Mo_deep, .ref aMo_limits, .ref aMo_counts, .ref aMo_owner, .int Mo_loops, .ref aMo_open, .int Mo_steps, .int Mo_fault, .int Mo_place])), (aMo_text, .inl (cI, 300, .inl Mo_text)), (aMo_from, .inl (cI, 150, .inl Mo_from)), (aMo_to, .inl (cI, 150, .inl Mo_to))] sz)) 0 0 (va_A [(aMo, .inr (11, [.ref aMo_text, .int Mo_length, .ref aMo_from, .ref aMo_to, .int Mo_words, .ref aMo_stack, .int Mo_height, .ref aMo_memory, .ref aMo_out, .int Mo_outs, .ref aMo_names, .ref aMo_starts, .ref aMo_sizes, .int Mo_defined, .ref aMo_kind, .ref aMo_what, .ref aMo_running, .ref aMo_at, .int Mo_deep, .ref aMo_limits, .ref aMo_counts, .ref aMo_owner, .int Mo_loops, .ref aMo_open, .int Mo_steps, .int Mo_fault, .int Mo_place])), (aMo_text, .inl (cI, 300, .inl Mo_text)), (aMo_from, .inl (cI, 150, .inl Mo_from)), (aMo_to, .inl (cI, 150, .inl Mo_to))] sz) := by
  refine Met.ofW (cc := cX12_number) (maxL := 5) (ret := (some .int)) (by decide) rfl ?_
  intro p e s m args below meth c s₁ B hml hv
  obtain ⟨hargs, hsz, hP, hK, hD0⟩ := hv
  have hx := B.exec
  have hb := B.bytes
  have hr := B.returns
  have hts := atoms_spec (ws := wsX12_number) B.pre
  have hown : s.vm.findClass RX12 = some m.cls := findClass_of_methodNamed B.named
  have hlocks := B.notSynchronized
  subst hsz
  have hD := hD0.self (sz := s.heap.size)
  generalize hAe : va_A [(aMo, .inr (11, [.ref aMo_text, .int Mo_length, .ref aMo_from, .ref aMo_to, .int Mo_words, .ref aMo_stack, .int Mo_height, .ref aMo_memory, .ref aMo_out, .int Mo_outs, .ref aMo_names, .ref aMo_starts, .ref aMo_sizes, .int Mo_defined, .ref aMo_kind, .ref aMo_what, .ref aMo_running, .ref aMo_at, .int Mo_deep, .ref aMo_limits, .ref aMo_counts, .ref aMo_owner, .int Mo_loops, .ref aMo_open, .int Mo_steps, .int Mo_fault, .int Mo_place])), (aMo_text, .inl (cI, 300, .inl Mo_text)), (aMo_from, .inl (cI, 150, .inl Mo_from)), (aMo_to, .inl (cI, 150, .inl Mo_to))] s.heap.size = A at hD ⊢
  have hA : ∀ q : Nat, s.heap.size ≤ q → A q := fun q h => by rw [← hAe]; exact Or.inr h
  have hS : va_S A s.heap s.heap [] := va_S.rf
  have hl := lv_entry ([.ref aMo, .int p0]) (n := 5) (Nat.le_of_ble_eq_true rfl)
  have hfr : entryFrame m args 5 = entryFrame m ([.ref aMo, .int p0] : List Value).toArray 5 := by rw [hargs]
  rw [hfr, lg_entry_eq]
  generalize (lg_sl ([.ref aMo, .int p0]) ++ List.replicate (5 - (lg_sl ([.ref aMo, .int p0])).length) Slot.unset).toArray = ls at hl ⊢
  have hl : lv_has ls 5 [(0, .ref aMo), (1, .int p0)] := hl
  refine nameQ_ (fun Q hQ => ?_)
  have hP : va_P (dC, dI) vwCl [(aMo, .inr (11, [.ref aMo_text, .int Mo_length, .ref aMo_from, .ref aMo_to, .int Mo_words, .ref aMo_stack, .int Mo_height, .ref aMo_memory, .ref aMo_out, .int Mo_outs, .ref aMo_names, .ref aMo_starts, .ref aMo_sizes, .int Mo_defined, .ref aMo_kind, .ref aMo_what, .ref aMo_running, .ref aMo_at, .int Mo_deep, .ref aMo_limits, .ref aMo_counts, .ref aMo_owner, .int Mo_loops, .ref aMo_open, .int Mo_steps, .int Mo_fault, .int Mo_place])), (aMo_text, .inl (cI, 300, .inl Mo_text)), (aMo_from, .inl (cI, 150, .inl Mo_from)), (aMo_to, .inl (cI, 150, .inl Mo_to))] s.heap := hP
  have hj_47 : ∀ (n : Nat), ∀ (x1 : Int32) (x2 : Int32) (x3 : Int32) (x4 : Int32) (H : Heap) (locs : List Loc) (ls : Array Slot), fnX12_number_47 Mo_text Mo_from Mo_to n x1 x2 x3 x4 = some rr → va_P (dC, dI) vwCl [(aMo, .inr (11, [.ref aMo_text, .int Mo_length, .ref aMo_from, .ref aMo_to, .int Mo_words, .ref aMo_stack, .int Mo_height, .ref aMo_memory, .ref aMo_out, .int Mo_outs, .ref aMo_names, .ref aMo_starts, .ref aMo_sizes, .int Mo_defined, .ref aMo_kind, .ref aMo_what, .ref aMo_running, .ref aMo_at, .int Mo_deep, .ref aMo_limits, .ref aMo_counts, .ref aMo_owner, .int Mo_loops, .ref aMo_open, .int Mo_steps, .int Mo_fault, .int Mo_place])), (aMo_text, .inl (cI, 300, .inl Mo_text)), (aMo_from, .inl (cI, 150, .inl Mo_from)), (aMo_to, .inl (cI, 150, .inl Mo_to))] H → va_D A [(aMo, .inr (11, [.ref aMo_text, .int Mo_length, .ref aMo_from, .ref aMo_to, .int Mo_words, .ref aMo_stack, .int Mo_height, .ref aMo_memory, .ref aMo_out, .int Mo_outs, .ref aMo_names, .ref aMo_starts, .ref aMo_sizes, .int Mo_defined, .ref aMo_kind, .ref aMo_what, .ref aMo_running, .ref aMo_at, .int Mo_deep, .ref aMo_limits, .ref aMo_counts, .ref aMo_owner, .int Mo_loops, .ref aMo_open, .int Mo_steps, .int Mo_fault, .int Mo_place])), (aMo_text, .inl (cI, 300, .inl Mo_text)), (aMo_from, .inl (cI, 150, .inl Mo_from)), (aMo_to, .inl (cI, 150, .inl Mo_to))] → va_S A s.heap H locs → lv_has ls 5 [(1, .int x1), (2, .int x2), (3, .int x3), (4, .int x4), (0, .ref aMo)] → W p l e rmX12_number s m args below meth c H locs 0 0 Q (F0 m 47 ls []) := by
    intro n
    induction n with
    | zero =>
      intro x1 x2 x3 x4 H locs ls h
      cases h
    | succ n ih =>
      intro x1 x2 x3 x4 H locs ls h hP hD hS hl
      rw [fnX12_number_47] at h
      refine lv_iload hx hb dX12_number_47 (lv_at hl 3 rfl) ?_
      refine lv_aload_n hx hb dX12_number_49 rfl (lv_at hl 4 rfl) ?_
      refine va_get (D := (dC, dI)) (ci := 11) (v := .ref aMo_to) (C := RX12) (T := TX12) (N := 27) hx hb hts (fun w h => List.mem_cons_of_mem _ (inX12 w h)) hown hK hP 0 rfl rfl 3 (by decide) (hts _ (List.mem_cons_of_mem _ mw_406)) (fun _ h9 => h9) rfl dX12_number_50 ?_
      refine lv_iload_n hx hb dX12_number_53 rfl (lv_at hl 0 rfl) ?_
      obtain ⟨x_1, hi_2, h⟩ := bd1_some h
      obtain ⟨hi_2, ex_3⟩ := ga_some hi_2
      refine va_iald hx hb hK hP 3 0 rfl rfl hi_2 dX12_number_54 ?_
      rw [← ex_3]
      refine lv_icmp_ge (tgt := 80) hx hb dX12_number_55 (by decide) (fun c_4 => ?_) (fun c_4 => ?_)
      · have h := it_t c_4 h
        refine lv_iload_n hx hb dX12_number_80 rfl (lv_at hl 1 rfl) ?_
        refine lv_if_eq (tgt := 89) hx hb dX12_number_81 (by decide) (fun c_5 => ?_) (fun c_5 => ?_)
        · have h := it_t c_5 h
          refine lv_iload_n hx hb dX12_number_89 rfl (lv_at hl 2 rfl) ?_
          cases h
          rw [hQ]
          exact W.iret hx hb hr (fun t ht hW => ⟨⟨_, (), rfl, rfl, by rw [ht]; exact hP, va_K.moved hW.alike hK, hD⟩, hS.F ht⟩) hS.2.2 dX12_number_90
        · have h := it_f c_5 h
          refine lv_iload_n hx hb dX12_number_84 rfl (lv_at hl 2 rfl) ?_
          refine lv_ineg hx hb dX12_number_85 ?_
          refine lv_goto (tgt := 90) hx hb dX12_number_86 (by decide) ?_
          cases h
          rw [hQ]
          exact W.iret hx hb hr (fun t ht hW => ⟨⟨_, (), rfl, rfl, by rw [ht]; exact hP, va_K.moved hW.alike hK, hD⟩, hS.F ht⟩) hS.2.2 dX12_number_90
      · have h := it_f c_4 h
        refine lv_bipush (v := (10 : Int32)) hx hb dX12_number_58 (by decide) ?_
        refine lv_iload_n hx hb dX12_number_60 rfl (lv_at hl 2 rfl) ?_
        refine lv_imul hx hb dX12_number_61 ?_
        refine lv_aload_n hx hb dX12_number_62 rfl (lv_at hl 4 rfl) ?_
        refine va_get (D := (dC, dI)) (ci := 11) (v := .ref aMo_text) (C := RX12) (T := TX12) (N := 27) hx hb hts (fun w h => List.mem_cons_of_mem _ (inX12 w h)) hown hK hP 0 rfl rfl 0 (by decide) (hts _ (List.mem_cons_of_mem _ mw_405)) (fun _ h9 => h9) rfl dX12_number_63 ?_
        refine lv_iload hx hb dX12_number_66 (lv_at hl 3 rfl) ?_
        obtain ⟨x_6, hi_7, h⟩ := bd1_some h
        obtain ⟨hi_7, ex_8⟩ := ga_some hi_7
        refine va_iald hx hb hK hP 1 0 rfl rfl hi_7 dX12_number_68 ?_
        rw [← ex_8]
        refine lv_iadd hx hb dX12_number_69 ?_
        refine lv_bipush (v := (48 : Int32)) hx hb dX12_number_70 (by decide) ?_
        refine lv_isub hx hb dX12_number_72 ?_
        refine lv_istore_n (lv' := [(3, .int ((((10 : Int32) * x3) + x_6) - (48 : Int32))), (1, .int x1), (2, .int x2), (4, .int x4), (0, .ref aMo)]) hx hb dX12_number_73 rfl hl (by decide) rfl (fun ls hl => ?_)
        refine lv_iinc (v := x4 + (1 : Int32)) (lv' := [(4, .int (x4 + (1 : Int32))), (3, .int ((((10 : Int32) * x3) + x_6) - (48 : Int32))), (1, .int x1), (2, .int x2), (0, .ref aMo)]) hx hb dX12_number_74 hl (k := 3) rfl rfl (by decide) rfl (fun ls hl => ?_)
        refine lv_goto (tgt := 47) hx hb dX12_number_77 (by decide) ?_
        exact ih x1 x2 ((((10 : Int32) * x3) + x_6) - (48 : Int32)) (x4 + (1 : Int32)) _ _ _ h hP hD hS (lv_sub hl [2, 3, 1, 0, 4] rfl)
  have hj_45 : ∀ (x1 : Int32) (x2 : Int32) (x3 : Int32) (z0 : Int32) (H : Heap) (locs : List Loc) (ls : Array Slot), fnX12_number_45 Mo_text Mo_from Mo_to x1 x2 x3 z0 = some rr → va_P (dC, dI) vwCl [(aMo, .inr (11, [.ref aMo_text, .int Mo_length, .ref aMo_from, .ref aMo_to, .int Mo_words, .ref aMo_stack, .int Mo_height, .ref aMo_memory, .ref aMo_out, .int Mo_outs, .ref aMo_names, .ref aMo_starts, .ref aMo_sizes, .int Mo_defined, .ref aMo_kind, .ref aMo_what, .ref aMo_running, .ref aMo_at, .int Mo_deep, .ref aMo_limits, .ref aMo_counts, .ref aMo_owner, .int Mo_loops, .ref aMo_open, .int Mo_steps, .int Mo_fault, .int Mo_place])), (aMo_text, .inl (cI, 300, .inl Mo_text)), (aMo_from, .inl (cI, 150, .inl Mo_from)), (aMo_to, .inl (cI, 150, .inl Mo_to))] H → va_D A [(aMo, .inr (11, [.ref aMo_text, .int Mo_length, .ref aMo_from, .ref aMo_to, .int Mo_words, .ref aMo_stack, .int Mo_height, .ref aMo_memory, .ref aMo_out, .int Mo_outs, .ref aMo_names, .ref aMo_starts, .ref aMo_sizes, .int Mo_defined, .ref aMo_kind, .ref aMo_what, .ref aMo_running, .ref aMo_at, .int Mo_deep, .ref aMo_limits, .ref aMo_counts, .ref aMo_owner, .int Mo_loops, .ref aMo_open, .int Mo_steps, .int Mo_fault, .int Mo_place])), (aMo_text, .inl (cI, 300, .inl Mo_text)), (aMo_from, .inl (cI, 150, .inl Mo_from)), (aMo_to, .inl (cI, 150, .inl Mo_to))] → va_S A s.heap H locs → lv_has ls 5 [(1, .int x1), (2, .int x2), (3, .int x3), (0, .ref aMo)] → W p l e rmX12_number s m args below meth c H locs 0 0 Q (F0 m 45 ls [.int z0]) := by
    intro x1 x2 x3 z0 H locs ls h hP hD hS hl
    unfold fnX12_number_45 at h
    refine lv_istore (lv' := [(4, .int z0), (1, .int x1), (2, .int x2), (3, .int x3), (0, .ref aMo)]) hx hb dX12_number_45 hl (by decide) rfl (fun ls hl => ?_)
    exact hj_47 fuel_ x1 x2 x3 z0 _ _ _ h hP hD hS (lv_sub hl [1, 2, 3, 0, 4] rfl)
  have hj_21 : ∀ (x1 : Int32) (z0 : Int32) (H : Heap) (locs : List Loc) (ls : Array Slot), fnX12_number_21 Mo_text Mo_from Mo_to x1 z0 = some rr → va_P (dC, dI) vwCl [(aMo, .inr (11, [.ref aMo_text, .int Mo_length, .ref aMo_from, .ref aMo_to, .int Mo_words, .ref aMo_stack, .int Mo_height, .ref aMo_memory, .ref aMo_out, .int Mo_outs, .ref aMo_names, .ref aMo_starts, .ref aMo_sizes, .int Mo_defined, .ref aMo_kind, .ref aMo_what, .ref aMo_running, .ref aMo_at, .int Mo_deep, .ref aMo_limits, .ref aMo_counts, .ref aMo_owner, .int Mo_loops, .ref aMo_open, .int Mo_steps, .int Mo_fault, .int Mo_place])), (aMo_text, .inl (cI, 300, .inl Mo_text)), (aMo_from, .inl (cI, 150, .inl Mo_from)), (aMo_to, .inl (cI, 150, .inl Mo_to))] H → va_D A [(aMo, .inr (11, [.ref aMo_text, .int Mo_length, .ref aMo_from, .ref aMo_to, .int Mo_words, .ref aMo_stack, .int Mo_height, .ref aMo_memory, .ref aMo_out, .int Mo_outs, .ref aMo_names, .ref aMo_starts, .ref aMo_sizes, .int Mo_defined, .ref aMo_kind, .ref aMo_what, .ref aMo_running, .ref aMo_at, .int Mo_deep, .ref aMo_limits, .ref aMo_counts, .ref aMo_owner, .int Mo_loops, .ref aMo_open, .int Mo_steps, .int Mo_fault, .int Mo_place])), (aMo_text, .inl (cI, 300, .inl Mo_text)), (aMo_from, .inl (cI, 150, .inl Mo_from)), (aMo_to, .inl (cI, 150, .inl Mo_to))] → va_S A s.heap H locs → lv_has ls 5 [(1, .int x1), (0, .ref aMo)] → W p l e rmX12_number s m args below meth c H locs 0 0 Q (F0 m 21 ls [.int z0]) := by
    intro x1 z0 H locs ls h hP hD hS hl
    unfold fnX12_number_21 at h
    refine lv_istore_n (lv' := [(2, .int z0), (1, .int x1), (0, .ref aMo)]) hx hb dX12_number_21 rfl hl (by decide) rfl (fun ls hl => ?_)
    refine lv_iconst (v := (0 : Int32)) hx hb dX12_number_22 (by decide) ?_
    refine lv_istore_n (lv' := [(3, .int (0 : Int32)), (2, .int z0), (1, .int x1), (0, .ref aMo)]) hx hb dX12_number_23 rfl hl (by decide) rfl (fun ls hl => ?_)
    refine lv_iload_n hx hb dX12_number_24 rfl (lv_at hl 1 rfl) ?_
    refine lv_if_eq (tgt := 39) hx hb dX12_number_25 (by decide) (fun c_9 => ?_) (fun c_9 => ?_)
    · have h := it_t c_9 h
      refine lv_aload_n hx hb dX12_number_39 rfl (lv_at hl 3 rfl) ?_
      refine va_get (D := (dC, dI)) (ci := 11) (v := .ref aMo_from) (C := RX12) (T := TX12) (N := 27) hx hb hts (fun w h => List.mem_cons_of_mem _ (inX12 w h)) hown hK hP 0 rfl rfl 2 (by decide) (hts _ (List.mem_cons_of_mem _ mw_408)) (fun _ h9 => h9) rfl dX12_number_40 ?_
      refine lv_iload_n hx hb dX12_number_43 rfl (lv_at hl 2 rfl) ?_
      obtain ⟨x_10, hi_11, h⟩ := bd1_some h
      obtain ⟨hi_11, ex_12⟩ := ga_some hi_11
      refine va_iald hx hb hK hP 2 0 rfl rfl hi_11 dX12_number_44 ?_
      rw [← ex_12]
      exact hj_45 x1 z0 (0 : Int32) x_10 _ _ _ h hP hD hS (lv_sub hl [2, 1, 0, 3] rfl)
    · have h := it_f c_9 h
      refine lv_aload_n hx hb dX12_number_28 rfl (lv_at hl 3 rfl) ?_
      refine va_get (D := (dC, dI)) (ci := 11) (v := .ref aMo_from) (C := RX12) (T := TX12) (N := 27) hx hb hts (fun w h => List.mem_cons_of_mem _ (inX12 w h)) hown hK hP 0 rfl rfl 2 (by decide) (hts _ (List.mem_cons_of_mem _ mw_408)) (fun _ h9 => h9) rfl dX12_number_29 ?_
      refine lv_iload_n hx hb dX12_number_32 rfl (lv_at hl 2 rfl) ?_
      obtain ⟨x_13, hi_14, h⟩ := bd1_some h
      obtain ⟨hi_14, ex_15⟩ := ga_some hi_14
      refine va_iald hx hb hK hP 2 0 rfl rfl hi_14 dX12_number_33 ?_
      rw [← ex_15]
      refine lv_iconst (v := (1 : Int32)) hx hb dX12_number_34 (by decide) ?_
      refine lv_iadd hx hb dX12_number_35 ?_
      refine lv_goto (tgt := 45) hx hb dX12_number_36 (by decide) ?_
      exact hj_45 x1 z0 (0 : Int32) (x_13 + (1 : Int32)) _ _ _ h hP hD hS (lv_sub hl [2, 1, 0, 3] rfl)
  unfold fnX12_number at h
  refine lv_aload_n hx hb dX12_number_0 rfl (lv_at hl 0 rfl) ?_
  refine va_get (D := (dC, dI)) (ci := 11) (v := .ref aMo_text) (C := RX12) (T := TX12) (N := 27) hx hb hts (fun w h => List.mem_cons_of_mem _ (inX12 w h)) hown hK hP 0 rfl rfl 0 (by decide) (hts _ (List.mem_cons_of_mem _ mw_405)) (fun _ h9 => h9) rfl dX12_number_1 ?_
  refine lv_aload_n hx hb dX12_number_4 rfl (lv_at hl 0 rfl) ?_
  refine va_get (D := (dC, dI)) (ci := 11) (v := .ref aMo_from) (C := RX12) (T := TX12) (N := 27) hx hb hts (fun w h => List.mem_cons_of_mem _ (inX12 w h)) hown hK hP 0 rfl rfl 2 (by decide) (hts _ (List.mem_cons_of_mem _ mw_408)) (fun _ h9 => h9) rfl dX12_number_5 ?_
  refine lv_iload_n hx hb dX12_number_8 rfl (lv_at hl 1 rfl) ?_
  obtain ⟨x_16, hi_17, h⟩ := bd1_some h
  obtain ⟨hi_17, ex_18⟩ := ga_some hi_17
  refine va_iald hx hb hK hP 2 0 rfl rfl hi_17 dX12_number_9 ?_
  rw [← ex_18]
  obtain ⟨x_19, hi_20, h⟩ := bd1_some h
  obtain ⟨hi_20, ex_21⟩ := ga_some hi_20
  refine va_iald hx hb hK hP 1 0 rfl rfl hi_20 dX12_number_10 ?_
  rw [← ex_21]
  refine lv_bipush (v := (45 : Int32)) hx hb dX12_number_11 (by decide) ?_
  refine lv_icmp_ne (tgt := 20) hx hb dX12_number_13 (by decide) (fun c_22 => ?_) (fun c_22 => ?_)
  · have h := it_f c_22 h
    refine lv_iconst (v := (0 : Int32)) hx hb dX12_number_20 (by decide) ?_
    exact hj_21 p0 (0 : Int32) _ _ _ h hP hD hS (lv_sub hl [1, 0] rfl)
  · have h := it_t c_22 h
    refine lv_iconst (v := (1 : Int32)) hx hb dX12_number_16 (by decide) ?_
    refine lv_goto (tgt := 21) hx hb dX12_number_17 (by decide) ?_
    exact hj_21 p0 (1 : Int32) _ _ _ h hP hD hS (lv_sub hl [1, 0] rfl)
abbrev rmX12_plain : Room := { frames := 0, cells := 0, slots := 0, locals := 0 }
set_option maxHeartbeats 4000000 in
set_option maxRecDepth 100000 in
theorem ctX12_plain (l : Launch) (dC : Nat → ClassId) (dI : Nat → Nat → Nat) (cI cC cJ : ClassId) (sz : Nat)  (p0 : Int64) (rr : Int32)  (h : fnX12_plain  p0 = some rr) : Met l yX12_plain wsX12_plain rmX12_plain (va_Pc [.long p0] (fun U => U.heap.size = sz ∧ va_P (dC, dI) vwCl [] U.heap ∧ va_K (dC, dI) vwCl [(cI, .int), (cC, .char), (cJ, .long)] U ∧ va_D (fun _ => True) [])) (va_Qi (fun r (_ : Unit) => r = rr) (fun _ t => va_P (dC, dI) vwCl [] t.heap ∧ va_K (dC, dI) vwCl [(cI, .int), (cC, .char), (cJ, .long)] t ∧ va_D (va_A [] sz) []) (va_A [] sz)) 0 0 (va_A [] sz) := by
  refine Met.ofW (cc := cX12_plain) (maxL := 2) (ret := (some .int)) (by decide) rfl ?_
  intro p e s m args below meth c s₁ B hml hv
  obtain ⟨hargs, hsz, hP, hK, hD0⟩ := hv
  have hx := B.exec
  have hb := B.bytes
  have hr := B.returns
  have hts := atoms_spec (ws := wsX12_plain) B.pre
  have hown : s.vm.findClass RX12 = some m.cls := findClass_of_methodNamed B.named
  have hlocks := B.notSynchronized
  subst hsz
  have hD := hD0.self (sz := s.heap.size)
  generalize hAe : va_A [] s.heap.size = A at hD ⊢
  have hA : ∀ q : Nat, s.heap.size ≤ q → A q := fun q h => by rw [← hAe]; exact Or.inr h
  have hS : va_S A s.heap s.heap [] := va_S.rf
  have hl := lv_entry ([.long p0]) (n := 2) (Nat.le_of_ble_eq_true rfl)
  have hfr : entryFrame m args 2 = entryFrame m ([.long p0] : List Value).toArray 2 := by rw [hargs]
  rw [hfr, lg_entry_eq]
  generalize (lg_sl ([.long p0]) ++ List.replicate (2 - (lg_sl ([.long p0])).length) Slot.unset).toArray = ls at hl ⊢
  have hl : lv_has ls 2 [(0, .long p0)] := hl
  refine nameQ_ (fun Q hQ => ?_)
  unfold fnX12_plain at h
  refine lv_lload_n hx hb dX12_plain_0 rfl (lv_at hl 0 rfl) ?_
  refine lv_ldc2 (v := (1653488 : Int64)) hx hb hown (hts _ (List.mem_cons_of_mem _ mw_415)) dX12_plain_1 ?_
  refine W.lcmp hx hb dX12_plain_4 ?_
  refine lv_if_ne (tgt := 10) hx hb dX12_plain_5 (by decide) (fun c_1 => ?_) (fun c_1 => ?_)
  · have h := it_f c_1 h
    refine lv_lload_n hx hb dX12_plain_10 rfl (lv_at hl 0 rfl) ?_
    refine lv_ldc2 (v := (211597296 : Int64)) hx hb hown (hts _ (List.mem_cons_of_mem _ mw_416)) dX12_plain_11 ?_
    refine W.lcmp hx hb dX12_plain_14 ?_
    refine lv_if_ne (tgt := 20) hx hb dX12_plain_15 (by decide) (fun c_2 => ?_) (fun c_2 => ?_)
    · have h := it_f c_2 h
      refine lv_lload_n hx hb dX12_plain_20 rfl (lv_at hl 0 rfl) ?_
      refine lv_ldc2 (v := (243134704 : Int64)) hx hb hown (hts _ (List.mem_cons_of_mem _ mw_417)) dX12_plain_21 ?_
      refine W.lcmp hx hb dX12_plain_24 ?_
      refine lv_if_ne (tgt := 30) hx hb dX12_plain_25 (by decide) (fun c_3 => ?_) (fun c_3 => ?_)
      · have h := it_f c_3 h
        refine lv_lload_n hx hb dX12_plain_30 rfl (lv_at hl 0 rfl) ?_
        refine lv_ldc2 (v := (234730226 : Int64)) hx hb hown (hts _ (List.mem_cons_of_mem _ mw_418)) dX12_plain_31 ?_
        refine W.lcmp hx hb dX12_plain_34 ?_
        refine lv_if_ne (tgt := 40) hx hb dX12_plain_35 (by decide) (fun c_4 => ?_) (fun c_4 => ?_)
        · have h := it_f c_4 h
          refine lv_lload_n hx hb dX12_plain_40 rfl (lv_at hl 0 rfl) ?_
          refine lv_ldc2 (v := (1882100 : Int64)) hx hb hown (hts _ (List.mem_cons_of_mem _ mw_419)) dX12_plain_41 ?_
          refine W.lcmp hx hb dX12_plain_44 ?_
          refine lv_if_ne (tgt := 50) hx hb dX12_plain_45 (by decide) (fun c_5 => ?_) (fun c_5 => ?_)
          · have h := it_f c_5 h
            refine lv_lload_n hx hb dX12_plain_50 rfl (lv_at hl 0 rfl) ?_
            refine lv_ldc2 (v := (1815792 : Int64)) hx hb hown (hts _ (List.mem_cons_of_mem _ mw_420)) dX12_plain_51 ?_
            refine W.lcmp hx hb dX12_plain_54 ?_
            refine lv_if_ne (tgt := 60) hx hb dX12_plain_55 (by decide) (fun c_6 => ?_) (fun c_6 => ?_)
            · have h := it_f c_6 h
              refine lv_lload_n hx hb dX12_plain_60 rfl (lv_at hl 0 rfl) ?_
              refine lv_ldc2 (v := (245199339 : Int64)) hx hb hown (hts _ (List.mem_cons_of_mem _ mw_421)) dX12_plain_61 ?_
              refine W.lcmp hx hb dX12_plain_64 ?_
              refine lv_if_ne (tgt := 71) hx hb dX12_plain_65 (by decide) (fun c_7 => ?_) (fun c_7 => ?_)
              · have h := it_f c_7 h
                refine lv_lload_n hx hb dX12_plain_71 rfl (lv_at hl 0 rfl) ?_
                refine lv_ldc2 (v := (133774064 : Int64)) hx hb hown (hts _ (List.mem_cons_of_mem _ mw_422)) dX12_plain_72 ?_
                refine W.lcmp hx hb dX12_plain_75 ?_
                refine lv_if_ne (tgt := 82) hx hb dX12_plain_76 (by decide) (fun c_8 => ?_) (fun c_8 => ?_)
                · have h := it_f c_8 h
                  refine lv_lload_n hx hb dX12_plain_82 rfl (lv_at hl 0 rfl) ?_
                  refine lv_ldc2 (v := (27057207912 : Int64)) hx hb hown (hts _ (List.mem_cons_of_mem _ mw_423)) dX12_plain_83 ?_
                  refine W.lcmp hx hb dX12_plain_86 ?_
                  refine lv_if_ne (tgt := 93) hx hb dX12_plain_87 (by decide) (fun c_9 => ?_) (fun c_9 => ?_)
                  · have h := it_f c_9 h
                    refine lv_lload_n hx hb dX12_plain_93 rfl (lv_at hl 0 rfl) ?_
                    refine lv_ldc2 (v := (43 : Int64)) hx hb hown (hts _ (List.mem_cons_of_mem _ mw_424)) dX12_plain_94 ?_
                    refine W.lcmp hx hb dX12_plain_97 ?_
                    refine lv_if_ne (tgt := 104) hx hb dX12_plain_98 (by decide) (fun c_10 => ?_) (fun c_10 => ?_)
                    · have h := it_f c_10 h
                      refine lv_lload_n hx hb dX12_plain_104 rfl (lv_at hl 0 rfl) ?_
                      refine lv_ldc2 (v := (45 : Int64)) hx hb hown (hts _ (List.mem_cons_of_mem _ mw_425)) dX12_plain_105 ?_
                      refine W.lcmp hx hb dX12_plain_108 ?_
                      refine lv_if_ne (tgt := 115) hx hb dX12_plain_109 (by decide) (fun c_11 => ?_) (fun c_11 => ?_)
                      · have h := it_f c_11 h
                        refine lv_lload_n hx hb dX12_plain_115 rfl (lv_at hl 0 rfl) ?_
                        refine lv_ldc2 (v := (42 : Int64)) hx hb hown (hts _ (List.mem_cons_of_mem _ mw_426)) dX12_plain_116 ?_
                        refine W.lcmp hx hb dX12_plain_119 ?_
                        refine lv_if_ne (tgt := 126) hx hb dX12_plain_120 (by decide) (fun c_12 => ?_) (fun c_12 => ?_)
                        · have h := it_f c_12 h
                          refine lv_lload_n hx hb dX12_plain_126 rfl (lv_at hl 0 rfl) ?_
                          refine lv_ldc2 (v := (47 : Int64)) hx hb hown (hts _ (List.mem_cons_of_mem _ mw_427)) dX12_plain_127 ?_
                          refine W.lcmp hx hb dX12_plain_130 ?_
                          refine lv_if_ne (tgt := 137) hx hb dX12_plain_131 (by decide) (fun c_13 => ?_) (fun c_13 => ?_)
                          · have h := it_f c_13 h
                            refine lv_lload_n hx hb dX12_plain_137 rfl (lv_at hl 0 rfl) ?_
                            refine lv_ldc2 (v := (1800164 : Int64)) hx hb hown (hts _ (List.mem_cons_of_mem _ mw_428)) dX12_plain_138 ?_
                            refine W.lcmp hx hb dX12_plain_141 ?_
                            refine lv_if_ne (tgt := 148) hx hb dX12_plain_142 (by decide) (fun c_14 => ?_) (fun c_14 => ?_)
                            · have h := it_f c_14 h
                              refine lv_lload_n hx hb dX12_plain_148 rfl (lv_at hl 0 rfl) ?_
                              refine lv_ldc2 (v := (3806900812389 : Int64)) hx hb hown (hts _ (List.mem_cons_of_mem _ mw_429)) dX12_plain_149 ?_
                              refine W.lcmp hx hb dX12_plain_152 ?_
                              refine lv_if_ne (tgt := 159) hx hb dX12_plain_153 (by decide) (fun c_15 => ?_) (fun c_15 => ?_)
                              · have h := it_f c_15 h
                                refine lv_lload_n hx hb dX12_plain_159 rfl (lv_at hl 0 rfl) ?_
                                refine lv_ldc2 (v := (1601907 : Int64)) hx hb hown (hts _ (List.mem_cons_of_mem _ mw_430)) dX12_plain_160 ?_
                                refine W.lcmp hx hb dX12_plain_163 ?_
                                refine lv_if_ne (tgt := 170) hx hb dX12_plain_164 (by decide) (fun c_16 => ?_) (fun c_16 => ?_)
                                · have h := it_f c_16 h
                                  refine lv_lload_n hx hb dX12_plain_170 rfl (lv_at hl 0 rfl) ?_
                                  refine lv_ldc2 (v := (1799406 : Int64)) hx hb hown (hts _ (List.mem_cons_of_mem _ mw_431)) dX12_plain_171 ?_
                                  refine W.lcmp hx hb dX12_plain_174 ?_
                                  refine lv_if_ne (tgt := 181) hx hb dX12_plain_175 (by decide) (fun c_17 => ?_) (fun c_17 => ?_)
                                  · have h := it_f c_17 h
                                    refine lv_lload_n hx hb dX12_plain_181 rfl (lv_at hl 0 rfl) ?_
                                    refine lv_ldc2 (v := (1798392 : Int64)) hx hb hown (hts _ (List.mem_cons_of_mem _ mw_432)) dX12_plain_182 ?_
                                    refine W.lcmp hx hb dX12_plain_185 ?_
                                    refine lv_if_ne (tgt := 192) hx hb dX12_plain_186 (by decide) (fun c_18 => ?_) (fun c_18 => ?_)
                                    · have h := it_f c_18 h
                                      refine lv_lload_n hx hb dX12_plain_192 rfl (lv_at hl 0 rfl) ?_
                                      refine lv_ldc2 (v := (1603428 : Int64)) hx hb hown (hts _ (List.mem_cons_of_mem _ mw_433)) dX12_plain_193 ?_
                                      refine W.lcmp hx hb dX12_plain_196 ?_
                                      refine lv_if_ne (tgt := 203) hx hb dX12_plain_197 (by decide) (fun c_19 => ?_) (fun c_19 => ?_)
                                      · have h := it_f c_19 h
                                        refine lv_lload_n hx hb dX12_plain_203 rfl (lv_at hl 0 rfl) ?_
                                        refine lv_ldc2 (v := (14322 : Int64)) hx hb hown (hts _ (List.mem_cons_of_mem _ mw_434)) dX12_plain_204 ?_
                                        refine W.lcmp hx hb dX12_plain_207 ?_
                                        refine lv_if_ne (tgt := 214) hx hb dX12_plain_208 (by decide) (fun c_20 => ?_) (fun c_20 => ?_)
                                        · have h := it_f c_20 h
                                          refine lv_lload_n hx hb dX12_plain_214 rfl (lv_at hl 0 rfl) ?_
                                          refine lv_ldc2 (v := (1980402 : Int64)) hx hb hown (hts _ (List.mem_cons_of_mem _ mw_435)) dX12_plain_215 ?_
                                          refine W.lcmp hx hb dX12_plain_218 ?_
                                          refine lv_if_ne (tgt := 225) hx hb dX12_plain_219 (by decide) (fun c_21 => ?_) (fun c_21 => ?_)
                                          · have h := it_f c_21 h
                                            refine lv_lload_n hx hb dX12_plain_225 rfl (lv_at hl 0 rfl) ?_
                                            refine lv_ldc2 (v := (3637549562228 : Int64)) hx hb hown (hts _ (List.mem_cons_of_mem _ mw_436)) dX12_plain_226 ?_
                                            refine W.lcmp hx hb dX12_plain_229 ?_
                                            refine lv_if_ne (tgt := 236) hx hb dX12_plain_230 (by decide) (fun c_22 => ?_) (fun c_22 => ?_)
                                            · have h := it_f c_22 h
                                              refine lv_lload_n hx hb dX12_plain_236 rfl (lv_at hl 0 rfl) ?_
                                              refine lv_ldc2 (v := (3741941658484 : Int64)) hx hb hown (hts _ (List.mem_cons_of_mem _ mw_437)) dX12_plain_237 ?_
                                              refine W.lcmp hx hb dX12_plain_240 ?_
                                              refine lv_if_ne (tgt := 247) hx hb dX12_plain_241 (by decide) (fun c_23 => ?_) (fun c_23 => ?_)
                                              · have h := it_f c_23 h
                                                refine lv_lload_n hx hb dX12_plain_247 rfl (lv_at hl 0 rfl) ?_
                                                refine lv_ldc2 (v := (3948100088692 : Int64)) hx hb hown (hts _ (List.mem_cons_of_mem _ mw_438)) dX12_plain_248 ?_
                                                refine W.lcmp hx hb dX12_plain_251 ?_
                                                refine lv_if_ne (tgt := 258) hx hb dX12_plain_252 (by decide) (fun c_24 => ?_) (fun c_24 => ?_)
                                                · have h := it_f c_24 h
                                                  refine lv_lload_n hx hb dX12_plain_258 rfl (lv_at hl 0 rfl) ?_
                                                  refine lv_ldc2 (v := (61 : Int64)) hx hb hown (hts _ (List.mem_cons_of_mem _ mw_439)) dX12_plain_259 ?_
                                                  refine W.lcmp hx hb dX12_plain_262 ?_
                                                  refine lv_if_ne (tgt := 269) hx hb dX12_plain_263 (by decide) (fun c_25 => ?_) (fun c_25 => ?_)
                                                  · have h := it_f c_25 h
                                                    refine lv_lload_n hx hb dX12_plain_269 rfl (lv_at hl 0 rfl) ?_
                                                    refine lv_ldc2 (v := (60 : Int64)) hx hb hown (hts _ (List.mem_cons_of_mem _ mw_440)) dX12_plain_270 ?_
                                                    refine W.lcmp hx hb dX12_plain_273 ?_
                                                    refine lv_if_ne (tgt := 280) hx hb dX12_plain_274 (by decide) (fun c_26 => ?_) (fun c_26 => ?_)
                                                    · have h := it_f c_26 h
                                                      refine lv_lload_n hx hb dX12_plain_280 rfl (lv_at hl 0 rfl) ?_
                                                      refine lv_ldc2 (v := (62 : Int64)) hx hb hown (hts _ (List.mem_cons_of_mem _ mw_441)) dX12_plain_281 ?_
                                                      refine W.lcmp hx hb dX12_plain_284 ?_
                                                      refine lv_if_ne (tgt := 291) hx hb dX12_plain_285 (by decide) (fun c_27 => ?_) (fun c_27 => ?_)
                                                      · have h := it_f c_27 h
                                                        refine lv_lload_n hx hb dX12_plain_291 rfl (lv_at hl 0 rfl) ?_
                                                        refine lv_ldc2 (v := (6205 : Int64)) hx hb hown (hts _ (List.mem_cons_of_mem _ mw_442)) dX12_plain_292 ?_
                                                        refine W.lcmp hx hb dX12_plain_295 ?_
                                                        refine lv_if_ne (tgt := 302) hx hb dX12_plain_296 (by decide) (fun c_28 => ?_) (fun c_28 => ?_)
                                                        · have h := it_f c_28 h
                                                          refine lv_lload_n hx hb dX12_plain_302 rfl (lv_at hl 0 rfl) ?_
                                                          refine lv_ldc2 (v := (6204 : Int64)) hx hb hown (hts _ (List.mem_cons_of_mem _ mw_443)) dX12_plain_303 ?_
                                                          refine W.lcmp hx hb dX12_plain_306 ?_
                                                          refine lv_if_ne (tgt := 313) hx hb dX12_plain_307 (by decide) (fun c_29 => ?_) (fun c_29 => ?_)
                                                          · have h := it_f c_29 h
                                                            refine lv_lload_n hx hb dX12_plain_313 rfl (lv_at hl 0 rfl) ?_
                                                            refine lv_ldc2 (v := (64 : Int64)) hx hb hown (hts _ (List.mem_cons_of_mem _ mw_444)) dX12_plain_314 ?_
                                                            refine W.lcmp hx hb dX12_plain_317 ?_
                                                            refine lv_if_ne (tgt := 324) hx hb dX12_plain_318 (by decide) (fun c_30 => ?_) (fun c_30 => ?_)
                                                            · have h := it_f c_30 h
                                                              refine lv_lload_n hx hb dX12_plain_324 rfl (lv_at hl 0 rfl) ?_
                                                              refine lv_ldc2 (v := (33 : Int64)) hx hb hown (hts _ (List.mem_cons_of_mem _ mw_445)) dX12_plain_325 ?_
                                                              refine W.lcmp hx hb dX12_plain_328 ?_
                                                              refine lv_if_ne (tgt := 335) hx hb dX12_plain_329 (by decide) (fun c_31 => ?_) (fun c_31 => ?_)
                                                              · have h := it_f c_31 h
                                                                refine lv_lload_n hx hb dX12_plain_335 rfl (lv_at hl 0 rfl) ?_
                                                                refine lv_ldc2 (v := (5537 : Int64)) hx hb hown (hts _ (List.mem_cons_of_mem _ mw_446)) dX12_plain_336 ?_
                                                                refine W.lcmp hx hb dX12_plain_339 ?_
                                                                refine lv_if_ne (tgt := 346) hx hb dX12_plain_340 (by decide) (fun c_32 => ?_) (fun c_32 => ?_)
                                                                · have h := it_f c_32 h
                                                                  refine lv_lload_n hx hb dX12_plain_346 rfl (lv_at hl 0 rfl) ?_
                                                                  refine lv_ldc2 (v := (46 : Int64)) hx hb hown (hts _ (List.mem_cons_of_mem _ mw_447)) dX12_plain_347 ?_
                                                                  refine W.lcmp hx hb dX12_plain_350 ?_
                                                                  refine lv_if_ne (tgt := 357) hx hb dX12_plain_351 (by decide) (fun c_33 => ?_) (fun c_33 => ?_)
                                                                  · have h := it_f c_33 h
                                                                    refine lv_iconst (v := (-1 : Int32)) hx hb dX12_plain_357 (by decide) ?_
                                                                    cases h
                                                                    rw [hQ]
                                                                    exact W.iret hx hb hr (fun t ht hW => ⟨⟨_, (), rfl, rfl, by rw [ht]; exact hP, va_K.moved hW.alike hK, hD⟩, hS.F ht⟩) hS.2.2 dX12_plain_358
                                                                  · have h := it_t c_33 h
                                                                    refine lv_bipush (v := (32 : Int32)) hx hb dX12_plain_354 (by decide) ?_
                                                                    cases h
                                                                    rw [hQ]
                                                                    exact W.iret hx hb hr (fun t ht hW => ⟨⟨_, (), rfl, rfl, by rw [ht]; exact hP, va_K.moved hW.alike hK, hD⟩, hS.F ht⟩) hS.2.2 dX12_plain_356
                                                                · have h := it_t c_32 h
                                                                  refine lv_bipush (v := (31 : Int32)) hx hb dX12_plain_343 (by decide) ?_
                                                                  cases h
                                                                  rw [hQ]
                                                                  exact W.iret hx hb hr (fun t ht hW => ⟨⟨_, (), rfl, rfl, by rw [ht]; exact hP, va_K.moved hW.alike hK, hD⟩, hS.F ht⟩) hS.2.2 dX12_plain_345
                                                              · have h := it_t c_31 h
                                                                refine lv_bipush (v := (30 : Int32)) hx hb dX12_plain_332 (by decide) ?_
                                                                cases h
                                                                rw [hQ]
                                                                exact W.iret hx hb hr (fun t ht hW => ⟨⟨_, (), rfl, rfl, by rw [ht]; exact hP, va_K.moved hW.alike hK, hD⟩, hS.F ht⟩) hS.2.2 dX12_plain_334
                                                            · have h := it_t c_30 h
                                                              refine lv_bipush (v := (29 : Int32)) hx hb dX12_plain_321 (by decide) ?_
                                                              cases h
                                                              rw [hQ]
                                                              exact W.iret hx hb hr (fun t ht hW => ⟨⟨_, (), rfl, rfl, by rw [ht]; exact hP, va_K.moved hW.alike hK, hD⟩, hS.F ht⟩) hS.2.2 dX12_plain_323
                                                          · have h := it_t c_29 h
                                                            refine lv_bipush (v := (28 : Int32)) hx hb dX12_plain_310 (by decide) ?_
                                                            cases h
                                                            rw [hQ]
                                                            exact W.iret hx hb hr (fun t ht hW => ⟨⟨_, (), rfl, rfl, by rw [ht]; exact hP, va_K.moved hW.alike hK, hD⟩, hS.F ht⟩) hS.2.2 dX12_plain_312
                                                        · have h := it_t c_28 h
                                                          refine lv_bipush (v := (27 : Int32)) hx hb dX12_plain_299 (by decide) ?_
                                                          cases h
                                                          rw [hQ]
                                                          exact W.iret hx hb hr (fun t ht hW => ⟨⟨_, (), rfl, rfl, by rw [ht]; exact hP, va_K.moved hW.alike hK, hD⟩, hS.F ht⟩) hS.2.2 dX12_plain_301
                                                      · have h := it_t c_27 h
                                                        refine lv_bipush (v := (26 : Int32)) hx hb dX12_plain_288 (by decide) ?_
                                                        cases h
                                                        rw [hQ]
                                                        exact W.iret hx hb hr (fun t ht hW => ⟨⟨_, (), rfl, rfl, by rw [ht]; exact hP, va_K.moved hW.alike hK, hD⟩, hS.F ht⟩) hS.2.2 dX12_plain_290
                                                    · have h := it_t c_26 h
                                                      refine lv_bipush (v := (25 : Int32)) hx hb dX12_plain_277 (by decide) ?_
                                                      cases h
                                                      rw [hQ]
                                                      exact W.iret hx hb hr (fun t ht hW => ⟨⟨_, (), rfl, rfl, by rw [ht]; exact hP, va_K.moved hW.alike hK, hD⟩, hS.F ht⟩) hS.2.2 dX12_plain_279
                                                  · have h := it_t c_25 h
                                                    refine lv_bipush (v := (24 : Int32)) hx hb dX12_plain_266 (by decide) ?_
                                                    cases h
                                                    rw [hQ]
                                                    exact W.iret hx hb hr (fun t ht hW => ⟨⟨_, (), rfl, rfl, by rw [ht]; exact hP, va_K.moved hW.alike hK, hD⟩, hS.F ht⟩) hS.2.2 dX12_plain_268
                                                · have h := it_t c_24 h
                                                  refine lv_bipush (v := (23 : Int32)) hx hb dX12_plain_255 (by decide) ?_
                                                  cases h
                                                  rw [hQ]
                                                  exact W.iret hx hb hr (fun t ht hW => ⟨⟨_, (), rfl, rfl, by rw [ht]; exact hP, va_K.moved hW.alike hK, hD⟩, hS.F ht⟩) hS.2.2 dX12_plain_257
                                              · have h := it_t c_23 h
                                                refine lv_bipush (v := (22 : Int32)) hx hb dX12_plain_244 (by decide) ?_
                                                cases h
                                                rw [hQ]
                                                exact W.iret hx hb hr (fun t ht hW => ⟨⟨_, (), rfl, rfl, by rw [ht]; exact hP, va_K.moved hW.alike hK, hD⟩, hS.F ht⟩) hS.2.2 dX12_plain_246
                                            · have h := it_t c_22 h
                                              refine lv_bipush (v := (21 : Int32)) hx hb dX12_plain_233 (by decide) ?_
                                              cases h
                                              rw [hQ]
                                              exact W.iret hx hb hr (fun t ht hW => ⟨⟨_, (), rfl, rfl, by rw [ht]; exact hP, va_K.moved hW.alike hK, hD⟩, hS.F ht⟩) hS.2.2 dX12_plain_235
                                          · have h := it_t c_21 h
                                            refine lv_bipush (v := (20 : Int32)) hx hb dX12_plain_222 (by decide) ?_
                                            cases h
                                            rw [hQ]
                                            exact W.iret hx hb hr (fun t ht hW => ⟨⟨_, (), rfl, rfl, by rw [ht]; exact hP, va_K.moved hW.alike hK, hD⟩, hS.F ht⟩) hS.2.2 dX12_plain_224
                                        · have h := it_t c_20 h
                                          refine lv_bipush (v := (19 : Int32)) hx hb dX12_plain_211 (by decide) ?_
                                          cases h
                                          rw [hQ]
                                          exact W.iret hx hb hr (fun t ht hW => ⟨⟨_, (), rfl, rfl, by rw [ht]; exact hP, va_K.moved hW.alike hK, hD⟩, hS.F ht⟩) hS.2.2 dX12_plain_213
                                      · have h := it_t c_19 h
                                        refine lv_bipush (v := (18 : Int32)) hx hb dX12_plain_200 (by decide) ?_
                                        cases h
                                        rw [hQ]
                                        exact W.iret hx hb hr (fun t ht hW => ⟨⟨_, (), rfl, rfl, by rw [ht]; exact hP, va_K.moved hW.alike hK, hD⟩, hS.F ht⟩) hS.2.2 dX12_plain_202
                                    · have h := it_t c_18 h
                                      refine lv_bipush (v := (17 : Int32)) hx hb dX12_plain_189 (by decide) ?_
                                      cases h
                                      rw [hQ]
                                      exact W.iret hx hb hr (fun t ht hW => ⟨⟨_, (), rfl, rfl, by rw [ht]; exact hP, va_K.moved hW.alike hK, hD⟩, hS.F ht⟩) hS.2.2 dX12_plain_191
                                  · have h := it_t c_17 h
                                    refine lv_bipush (v := (16 : Int32)) hx hb dX12_plain_178 (by decide) ?_
                                    cases h
                                    rw [hQ]
                                    exact W.iret hx hb hr (fun t ht hW => ⟨⟨_, (), rfl, rfl, by rw [ht]; exact hP, va_K.moved hW.alike hK, hD⟩, hS.F ht⟩) hS.2.2 dX12_plain_180
                                · have h := it_t c_16 h
                                  refine lv_bipush (v := (15 : Int32)) hx hb dX12_plain_167 (by decide) ?_
                                  cases h
                                  rw [hQ]
                                  exact W.iret hx hb hr (fun t ht hW => ⟨⟨_, (), rfl, rfl, by rw [ht]; exact hP, va_K.moved hW.alike hK, hD⟩, hS.F ht⟩) hS.2.2 dX12_plain_169
                              · have h := it_t c_15 h
                                refine lv_bipush (v := (14 : Int32)) hx hb dX12_plain_156 (by decide) ?_
                                cases h
                                rw [hQ]
                                exact W.iret hx hb hr (fun t ht hW => ⟨⟨_, (), rfl, rfl, by rw [ht]; exact hP, va_K.moved hW.alike hK, hD⟩, hS.F ht⟩) hS.2.2 dX12_plain_158
                            · have h := it_t c_14 h
                              refine lv_bipush (v := (13 : Int32)) hx hb dX12_plain_145 (by decide) ?_
                              cases h
                              rw [hQ]
                              exact W.iret hx hb hr (fun t ht hW => ⟨⟨_, (), rfl, rfl, by rw [ht]; exact hP, va_K.moved hW.alike hK, hD⟩, hS.F ht⟩) hS.2.2 dX12_plain_147
                          · have h := it_t c_13 h
                            refine lv_bipush (v := (12 : Int32)) hx hb dX12_plain_134 (by decide) ?_
                            cases h
                            rw [hQ]
                            exact W.iret hx hb hr (fun t ht hW => ⟨⟨_, (), rfl, rfl, by rw [ht]; exact hP, va_K.moved hW.alike hK, hD⟩, hS.F ht⟩) hS.2.2 dX12_plain_136
                        · have h := it_t c_12 h
                          refine lv_bipush (v := (11 : Int32)) hx hb dX12_plain_123 (by decide) ?_
                          cases h
                          rw [hQ]
                          exact W.iret hx hb hr (fun t ht hW => ⟨⟨_, (), rfl, rfl, by rw [ht]; exact hP, va_K.moved hW.alike hK, hD⟩, hS.F ht⟩) hS.2.2 dX12_plain_125
                      · have h := it_t c_11 h
                        refine lv_bipush (v := (10 : Int32)) hx hb dX12_plain_112 (by decide) ?_
                        cases h
                        rw [hQ]
                        exact W.iret hx hb hr (fun t ht hW => ⟨⟨_, (), rfl, rfl, by rw [ht]; exact hP, va_K.moved hW.alike hK, hD⟩, hS.F ht⟩) hS.2.2 dX12_plain_114
                    · have h := it_t c_10 h
                      refine lv_bipush (v := (9 : Int32)) hx hb dX12_plain_101 (by decide) ?_
                      cases h
                      rw [hQ]
                      exact W.iret hx hb hr (fun t ht hW => ⟨⟨_, (), rfl, rfl, by rw [ht]; exact hP, va_K.moved hW.alike hK, hD⟩, hS.F ht⟩) hS.2.2 dX12_plain_103
                  · have h := it_t c_9 h
                    refine lv_bipush (v := (8 : Int32)) hx hb dX12_plain_90 (by decide) ?_
                    cases h
                    rw [hQ]
                    exact W.iret hx hb hr (fun t ht hW => ⟨⟨_, (), rfl, rfl, by rw [ht]; exact hP, va_K.moved hW.alike hK, hD⟩, hS.F ht⟩) hS.2.2 dX12_plain_92
                · have h := it_t c_8 h
                  refine lv_bipush (v := (7 : Int32)) hx hb dX12_plain_79 (by decide) ?_
                  cases h
                  rw [hQ]
                  exact W.iret hx hb hr (fun t ht hW => ⟨⟨_, (), rfl, rfl, by rw [ht]; exact hP, va_K.moved hW.alike hK, hD⟩, hS.F ht⟩) hS.2.2 dX12_plain_81
              · have h := it_t c_7 h
                refine lv_bipush (v := (6 : Int32)) hx hb dX12_plain_68 (by decide) ?_
                cases h
                rw [hQ]
                exact W.iret hx hb hr (fun t ht hW => ⟨⟨_, (), rfl, rfl, by rw [ht]; exact hP, va_K.moved hW.alike hK, hD⟩, hS.F ht⟩) hS.2.2 dX12_plain_70
            · have h := it_t c_6 h
              refine lv_iconst (v := (5 : Int32)) hx hb dX12_plain_58 (by decide) ?_
              cases h
              rw [hQ]
              exact W.iret hx hb hr (fun t ht hW => ⟨⟨_, (), rfl, rfl, by rw [ht]; exact hP, va_K.moved hW.alike hK, hD⟩, hS.F ht⟩) hS.2.2 dX12_plain_59
          · have h := it_t c_5 h
            refine lv_iconst (v := (4 : Int32)) hx hb dX12_plain_48 (by decide) ?_
            cases h
            rw [hQ]
            exact W.iret hx hb hr (fun t ht hW => ⟨⟨_, (), rfl, rfl, by rw [ht]; exact hP, va_K.moved hW.alike hK, hD⟩, hS.F ht⟩) hS.2.2 dX12_plain_49
        · have h := it_t c_4 h
          refine lv_iconst (v := (3 : Int32)) hx hb dX12_plain_38 (by decide) ?_
          cases h
          rw [hQ]
          exact W.iret hx hb hr (fun t ht hW => ⟨⟨_, (), rfl, rfl, by rw [ht]; exact hP, va_K.moved hW.alike hK, hD⟩, hS.F ht⟩) hS.2.2 dX12_plain_39
      · have h := it_t c_3 h
        refine lv_iconst (v := (2 : Int32)) hx hb dX12_plain_28 (by decide) ?_
        cases h
        rw [hQ]
        exact W.iret hx hb hr (fun t ht hW => ⟨⟨_, (), rfl, rfl, by rw [ht]; exact hP, va_K.moved hW.alike hK, hD⟩, hS.F ht⟩) hS.2.2 dX12_plain_29
    · have h := it_t c_2 h
      refine lv_iconst (v := (1 : Int32)) hx hb dX12_plain_18 (by decide) ?_
      cases h
      rw [hQ]
      exact W.iret hx hb hr (fun t ht hW => ⟨⟨_, (), rfl, rfl, by rw [ht]; exact hP, va_K.moved hW.alike hK, hD⟩, hS.F ht⟩) hS.2.2 dX12_plain_19
  · have h := it_t c_1 h
    refine lv_iconst (v := (0 : Int32)) hx hb dX12_plain_8 (by decide) ?_
    cases h
    rw [hQ]
    exact W.iret hx hb hr (fun t ht hW => ⟨⟨_, (), rfl, rfl, by rw [ht]; exact hP, va_K.moved hW.alike hK, hD⟩, hS.F ht⟩) hS.2.2 dX12_plain_9
abbrev rmX12_control : Room := { frames := 0, cells := 0, slots := 0, locals := 0 }
set_option maxHeartbeats 4000000 in
set_option maxRecDepth 100000 in
theorem ctX12_control (l : Launch) (dC : Nat → ClassId) (dI : Nat → Nat → Nat) (cI cC cJ : ClassId) (sz : Nat)  (p0 : Int64) (rr : Int32)  (h : fnX12_control  p0 = some rr) : Met l yX12_control wsX12_control rmX12_control (va_Pc [.long p0] (fun U => U.heap.size = sz ∧ va_P (dC, dI) vwCl [] U.heap ∧ va_K (dC, dI) vwCl [(cI, .int), (cC, .char), (cJ, .long)] U ∧ va_D (fun _ => True) [])) (va_Qi (fun r (_ : Unit) => r = rr) (fun _ t => va_P (dC, dI) vwCl [] t.heap ∧ va_K (dC, dI) vwCl [(cI, .int), (cC, .char), (cJ, .long)] t ∧ va_D (va_A [] sz) []) (va_A [] sz)) 0 0 (va_A [] sz) := by
  refine Met.ofW (cc := cX12_control) (maxL := 2) (ret := (some .int)) (by decide) rfl ?_
  intro p e s m args below meth c s₁ B hml hv
  obtain ⟨hargs, hsz, hP, hK, hD0⟩ := hv
  have hx := B.exec
  have hb := B.bytes
  have hr := B.returns
  have hts := atoms_spec (ws := wsX12_control) B.pre
  have hown : s.vm.findClass RX12 = some m.cls := findClass_of_methodNamed B.named
  have hlocks := B.notSynchronized
  subst hsz
  have hD := hD0.self (sz := s.heap.size)
  generalize hAe : va_A [] s.heap.size = A at hD ⊢
  have hA : ∀ q : Nat, s.heap.size ≤ q → A q := fun q h => by rw [← hAe]; exact Or.inr h
  have hS : va_S A s.heap s.heap [] := va_S.rf
  have hl := lv_entry ([.long p0]) (n := 2) (Nat.le_of_ble_eq_true rfl)
  have hfr : entryFrame m args 2 = entryFrame m ([.long p0] : List Value).toArray 2 := by rw [hargs]
  rw [hfr, lg_entry_eq]
  generalize (lg_sl ([.long p0]) ++ List.replicate (2 - (lg_sl ([.long p0])).length) Slot.unset).toArray = ls at hl ⊢
  have hl : lv_has ls 2 [(0, .long p0)] := hl
  refine nameQ_ (fun Q hQ => ?_)
  unfold fnX12_control at h
  refine lv_lload_n hx hb dX12_control_0 rfl (lv_at hl 0 rfl) ?_
  refine lv_ldc2 (v := (13542 : Int64)) hx hb hown (hts _ (List.mem_cons_of_mem _ mw_448)) dX12_control_1 ?_
  refine W.lcmp hx hb dX12_control_4 ?_
  refine lv_if_ne (tgt := 10) hx hb dX12_control_5 (by decide) (fun c_1 => ?_) (fun c_1 => ?_)
  · have h := it_f c_1 h
    refine lv_lload_n hx hb dX12_control_10 rfl (lv_at hl 0 rfl) ?_
    refine lv_ldc2 (v := (213596645 : Int64)) hx hb hown (hts _ (List.mem_cons_of_mem _ mw_449)) dX12_control_11 ?_
    refine W.lcmp hx hb dX12_control_14 ?_
    refine lv_if_ne (tgt := 20) hx hb dX12_control_15 (by decide) (fun c_2 => ?_) (fun c_2 => ?_)
    · have h := it_f c_2 h
      refine lv_lload_n hx hb dX12_control_20 rfl (lv_at hl 0 rfl) ?_
      refine lv_ldc2 (v := (244986606 : Int64)) hx hb hown (hts _ (List.mem_cons_of_mem _ mw_450)) dX12_control_21 ?_
      refine W.lcmp hx hb dX12_control_24 ?_
      refine lv_if_ne (tgt := 30) hx hb dX12_control_25 (by decide) (fun c_3 => ?_) (fun c_3 => ?_)
      · have h := it_f c_3 h
        refine lv_lload_n hx hb dX12_control_30 rfl (lv_at hl 0 rfl) ?_
        refine lv_ldc2 (v := (26520188142 : Int64)) hx hb hown (hts _ (List.mem_cons_of_mem _ mw_451)) dX12_control_31 ?_
        refine W.lcmp hx hb dX12_control_34 ?_
        refine lv_if_ne (tgt := 40) hx hb dX12_control_35 (by decide) (fun c_4 => ?_) (fun c_4 => ?_)
        · have h := it_f c_4 h
          refine lv_lload_n hx hb dX12_control_40 rfl (lv_at hl 0 rfl) ?_
          refine lv_ldc2 (v := (31639549164 : Int64)) hx hb hown (hts _ (List.mem_cons_of_mem _ mw_452)) dX12_control_41 ?_
          refine W.lcmp hx hb dX12_control_44 ?_
          refine lv_if_ne (tgt := 50) hx hb dX12_control_45 (by decide) (fun c_5 => ?_) (fun c_5 => ?_)
          · have h := it_f c_5 h
            refine lv_lload_n hx hb dX12_control_50 rfl (lv_at hl 0 rfl) ?_
            refine lv_ldc2 (v := (26255848686 : Int64)) hx hb hown (hts _ (List.mem_cons_of_mem _ mw_453)) dX12_control_51 ?_
            refine W.lcmp hx hb dX12_control_54 ?_
            refine lv_if_ne (tgt := 60) hx hb dX12_control_55 (by decide) (fun c_6 => ?_) (fun c_6 => ?_)
            · have h := it_f c_6 h
              refine lv_lload_n hx hb dX12_control_60 rfl (lv_at hl 0 rfl) ?_
              refine lv_ldc2 (v := (32163657317 : Int64)) hx hb hown (hts _ (List.mem_cons_of_mem _ mw_454)) dX12_control_61 ?_
              refine W.lcmp hx hb dX12_control_64 ?_
              refine lv_if_ne (tgt := 71) hx hb dX12_control_65 (by decide) (fun c_7 => ?_) (fun c_7 => ?_)
              · have h := it_f c_7 h
                refine lv_lload_n hx hb dX12_control_71 rfl (lv_at hl 0 rfl) ?_
                refine lv_ldc2 (v := (3944358703348 : Int64)) hx hb hown (hts _ (List.mem_cons_of_mem _ mw_455)) dX12_control_72 ?_
                refine W.lcmp hx hb dX12_control_75 ?_
                refine lv_if_ne (tgt := 82) hx hb dX12_control_76 (by decide) (fun c_8 => ?_) (fun c_8 => ?_)
                · have h := it_f c_8 h
                  refine lv_lload_n hx hb dX12_control_82 rfl (lv_at hl 0 rfl) ?_
                  refine lv_ldc2 (v := (12911 : Int64)) hx hb hown (hts _ (List.mem_cons_of_mem _ mw_456)) dX12_control_83 ?_
                  refine W.lcmp hx hb dX12_control_86 ?_
                  refine lv_if_ne (tgt := 93) hx hb dX12_control_87 (by decide) (fun c_9 => ?_) (fun c_9 => ?_)
                  · have h := it_f c_9 h
                    refine lv_lload_n hx hb dX12_control_93 rfl (lv_at hl 0 rfl) ?_
                    refine lv_ldc2 (v := (228325360 : Int64)) hx hb hown (hts _ (List.mem_cons_of_mem _ mw_457)) dX12_control_94 ?_
                    refine W.lcmp hx hb dX12_control_97 ?_
                    refine lv_if_ne (tgt := 104) hx hb dX12_control_98 (by decide) (fun c_10 => ?_) (fun c_10 => ?_)
                    · have h := it_f c_10 h
                      refine lv_lload_n hx hb dX12_control_104 rfl (lv_at hl 0 rfl) ?_
                      refine lv_ldc2 (v := (105 : Int64)) hx hb hown (hts _ (List.mem_cons_of_mem _ mw_458)) dX12_control_105 ?_
                      refine W.lcmp hx hb dX12_control_108 ?_
                      refine lv_if_ne (tgt := 115) hx hb dX12_control_109 (by decide) (fun c_11 => ?_) (fun c_11 => ?_)
                      · have h := it_f c_11 h
                        refine lv_lload_n hx hb dX12_control_115 rfl (lv_at hl 0 rfl) ?_
                        refine lv_ldc2 (v := (213791988 : Int64)) hx hb hown (hts _ (List.mem_cons_of_mem _ mw_459)) dX12_control_116 ?_
                        refine W.lcmp hx hb dX12_control_119 ?_
                        refine lv_if_ne (tgt := 126) hx hb dX12_control_120 (by decide) (fun c_12 => ?_) (fun c_12 => ?_)
                        · have h := it_f c_12 h
                          refine lv_lload_n hx hb dX12_control_126 rfl (lv_at hl 0 rfl) ?_
                          refine lv_ldc2 (v := (504874458200549 : Int64)) hx hb hown (hts _ (List.mem_cons_of_mem _ mw_460)) dX12_control_127 ?_
                          refine W.lcmp hx hb dX12_control_130 ?_
                          refine lv_if_ne (tgt := 137) hx hb dX12_control_131 (by decide) (fun c_13 => ?_) (fun c_13 => ?_)
                          · have h := it_f c_13 h
                            refine lv_iconst (v := (-1 : Int32)) hx hb dX12_control_137 (by decide) ?_
                            cases h
                            rw [hQ]
                            exact W.iret hx hb hr (fun t ht hW => ⟨⟨_, (), rfl, rfl, by rw [ht]; exact hP, va_K.moved hW.alike hK, hD⟩, hS.F ht⟩) hS.2.2 dX12_control_138
                          · have h := it_t c_13 h
                            refine lv_bipush (v := (12 : Int32)) hx hb dX12_control_134 (by decide) ?_
                            cases h
                            rw [hQ]
                            exact W.iret hx hb hr (fun t ht hW => ⟨⟨_, (), rfl, rfl, by rw [ht]; exact hP, va_K.moved hW.alike hK, hD⟩, hS.F ht⟩) hS.2.2 dX12_control_136
                        · have h := it_t c_12 h
                          refine lv_bipush (v := (11 : Int32)) hx hb dX12_control_123 (by decide) ?_
                          cases h
                          rw [hQ]
                          exact W.iret hx hb hr (fun t ht hW => ⟨⟨_, (), rfl, rfl, by rw [ht]; exact hP, va_K.moved hW.alike hK, hD⟩, hS.F ht⟩) hS.2.2 dX12_control_125
                      · have h := it_t c_11 h
                        refine lv_bipush (v := (10 : Int32)) hx hb dX12_control_112 (by decide) ?_
                        cases h
                        rw [hQ]
                        exact W.iret hx hb hr (fun t ht hW => ⟨⟨_, (), rfl, rfl, by rw [ht]; exact hP, va_K.moved hW.alike hK, hD⟩, hS.F ht⟩) hS.2.2 dX12_control_114
                    · have h := it_t c_10 h
                      refine lv_bipush (v := (9 : Int32)) hx hb dX12_control_101 (by decide) ?_
                      cases h
                      rw [hQ]
                      exact W.iret hx hb hr (fun t ht hW => ⟨⟨_, (), rfl, rfl, by rw [ht]; exact hP, va_K.moved hW.alike hK, hD⟩, hS.F ht⟩) hS.2.2 dX12_control_103
                  · have h := it_t c_9 h
                    refine lv_bipush (v := (8 : Int32)) hx hb dX12_control_90 (by decide) ?_
                    cases h
                    rw [hQ]
                    exact W.iret hx hb hr (fun t ht hW => ⟨⟨_, (), rfl, rfl, by rw [ht]; exact hP, va_K.moved hW.alike hK, hD⟩, hS.F ht⟩) hS.2.2 dX12_control_92
                · have h := it_t c_8 h
                  refine lv_bipush (v := (7 : Int32)) hx hb dX12_control_79 (by decide) ?_
                  cases h
                  rw [hQ]
                  exact W.iret hx hb hr (fun t ht hW => ⟨⟨_, (), rfl, rfl, by rw [ht]; exact hP, va_K.moved hW.alike hK, hD⟩, hS.F ht⟩) hS.2.2 dX12_control_81
              · have h := it_t c_7 h
                refine lv_bipush (v := (6 : Int32)) hx hb dX12_control_68 (by decide) ?_
                cases h
                rw [hQ]
                exact W.iret hx hb hr (fun t ht hW => ⟨⟨_, (), rfl, rfl, by rw [ht]; exact hP, va_K.moved hW.alike hK, hD⟩, hS.F ht⟩) hS.2.2 dX12_control_70
            · have h := it_t c_6 h
              refine lv_iconst (v := (5 : Int32)) hx hb dX12_control_58 (by decide) ?_
              cases h
              rw [hQ]
              exact W.iret hx hb hr (fun t ht hW => ⟨⟨_, (), rfl, rfl, by rw [ht]; exact hP, va_K.moved hW.alike hK, hD⟩, hS.F ht⟩) hS.2.2 dX12_control_59
          · have h := it_t c_5 h
            refine lv_iconst (v := (4 : Int32)) hx hb dX12_control_48 (by decide) ?_
            cases h
            rw [hQ]
            exact W.iret hx hb hr (fun t ht hW => ⟨⟨_, (), rfl, rfl, by rw [ht]; exact hP, va_K.moved hW.alike hK, hD⟩, hS.F ht⟩) hS.2.2 dX12_control_49
        · have h := it_t c_4 h
          refine lv_iconst (v := (3 : Int32)) hx hb dX12_control_38 (by decide) ?_
          cases h
          rw [hQ]
          exact W.iret hx hb hr (fun t ht hW => ⟨⟨_, (), rfl, rfl, by rw [ht]; exact hP, va_K.moved hW.alike hK, hD⟩, hS.F ht⟩) hS.2.2 dX12_control_39
      · have h := it_t c_3 h
        refine lv_iconst (v := (2 : Int32)) hx hb dX12_control_28 (by decide) ?_
        cases h
        rw [hQ]
        exact W.iret hx hb hr (fun t ht hW => ⟨⟨_, (), rfl, rfl, by rw [ht]; exact hP, va_K.moved hW.alike hK, hD⟩, hS.F ht⟩) hS.2.2 dX12_control_29
    · have h := it_t c_2 h
      refine lv_iconst (v := (1 : Int32)) hx hb dX12_control_18 (by decide) ?_
      cases h
      rw [hQ]
      exact W.iret hx hb hr (fun t ht hW => ⟨⟨_, (), rfl, rfl, by rw [ht]; exact hP, va_K.moved hW.alike hK, hD⟩, hS.F ht⟩) hS.2.2 dX12_control_19
  · have h := it_t c_1 h
    refine lv_iconst (v := (0 : Int32)) hx hb dX12_control_8 (by decide) ?_
    cases h
    rw [hQ]
    exact W.iret hx hb hr (fun t ht hW => ⟨⟨_, (), rfl, rfl, by rw [ht]; exact hP, va_K.moved hW.alike hK, hD⟩, hS.F ht⟩) hS.2.2 dX12_control_9
