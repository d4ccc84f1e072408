abbrev rmX12_feed : Room := { frames := 0, cells := 0, slots := 0, locals := 0 }
set_option maxHeartbeats 4000000 in
set_option maxRecDepth 100000 in
theorem ctX12_feed (l : Launch) (dC : Nat → ClassId) (dI : Nat → Nat → Nat) (cI cC cJ : ClassId) (aMo aMo_text aMo_from aMo_to aMo_stack aMo_memory aMo_out aMo_names aMo_starts aMo_sizes aMo_kind aMo_what aMo_running aMo_at aMo_limits aMo_counts aMo_owner aMo_open : Nat) (sz : Nat) (Mo_text : Nat → Int32) (Mo_length : Int32) (Mo_words : Int32) (Mo_height : Int32) (Mo_outs : Int32) (Mo_defined : Int32) (Mo_deep : Int32) (Mo_loops : Int32) (Mo_steps : Int32) (Mo_fault : Int32) (Mo_place : Int32) (p0 : Int32) (rr : Int32) (w_Mo_text : Nat → Int32) (w_Mo_length : Int32) (h : fnX12_feed Mo_text Mo_length p0 = some (rr, w_Mo_text, w_Mo_length)) : Met l yX12_feed wsX12_feed rmX12_feed (va_Pc [.ref aMo, .int p0] (fun U => U.heap.size = sz ∧ va_P (dC, dI) vwCl [(aMo, .inr (11, [.ref aMo_text, .int Mo_length, .ref aMo_from, .ref aMo_to, .int Mo_words, .ref aMo_stack, .int Mo_height, .ref aMo_memory, .ref aMo_out, .int Mo_outs, .ref aMo_names, .ref aMo_starts, .ref aMo_sizes, .int Mo_defined, .ref aMo_kind, .ref aMo_what, .ref aMo_running, .ref aMo_at, .int Mo_deep, .ref aMo_limits, .ref aMo_counts, .ref aMo_owner, .int Mo_loops, .ref aMo_open, .int Mo_steps, .int Mo_fault, .int Mo_place])), (aMo_text, .inl (cI, 300, .inl Mo_text))] U.heap ∧ va_K (dC, dI) vwCl [(cI, .int), (cC, .char), (cJ, .long)] U ∧ va_D (fun _ => True) [(aMo, .inr (11, [.ref aMo_text, .int Mo_length, .ref aMo_from, .ref aMo_to, .int Mo_words, .ref aMo_stack, .int Mo_height, .ref aMo_memory, .ref aMo_out, .int Mo_outs, .ref aMo_names, .ref aMo_starts, .ref aMo_sizes, .int Mo_defined, .ref aMo_kind, .ref aMo_what, .ref aMo_running, .ref aMo_at, .int Mo_deep, .ref aMo_limits, .ref aMo_counts, .ref aMo_owner, .int Mo_loops, .ref aMo_open, .int Mo_steps, .int Mo_fault, .int Mo_place])), (aMo_text, .inl (cI, 300, .inl Mo_text))])) (va_Qi (fun r (_ : Unit) => r = rr) (fun _ t => va_P (dC, dI) vwCl [(aMo, .inr (11, [.ref aMo_text, .int w_Mo_length, .ref aMo_from, .ref aMo_to, .int Mo_words, .ref aMo_stack, .int Mo_height, .ref aMo_memory, .ref aMo_out, .int Mo_outs, .ref aMo_names, .ref aMo_starts, .ref aMo_sizes, .int Mo_defined, .ref aMo_kind, .ref aMo_what, .ref aMo_running, .ref aMo_at, .int Mo_deep, .ref aMo_limits, .ref aMo_counts, .ref aMo_owner, .int Mo_loops, .ref aMo_open, .int Mo_steps, .int Mo_fault, .int Mo_place])), (aMo_text, .inl (cI, 300, .inl w_Mo_text))] t.heap ∧ va_K (dC, dI) vwCl [(cI, .int), (cC, .char), (cJ, .long)] t ∧ va_D (va_A [(aMo, .inr (11, [.ref aMo_text, .int Mo_length, .ref aMo_from, .ref aMo_to, .int Mo_words, .ref aMo_stack, .int Mo_height, .ref aMo_memory, .ref aMo_out, .int Mo_outs, .ref aMo_names, .ref aMo_starts, .ref aMo_sizes, .int Mo_defined, .ref aMo_kind, .ref aMo_what, .ref aMo_running, .ref aMo_at, .int Mo_deep, .ref aMo_limits, .ref aMo_counts, .ref aMo_owner, .int Mo_loops, .ref aMo_open, .int Mo_steps, .int Mo_fault, .int Mo_place])), (aMo_text, .inl (cI, 300, .inl Mo_text))] sz) [(aMo, .inr (11, [.ref aMo_text, .int w_Mo_length, .ref aMo_from, .ref aMo_to, .int Mo_words, .ref aMo_stack, .int Mo_height, .ref aMo_memory, .ref aMo_out, .int Mo_outs, .ref aMo_names, .ref aMo_starts, .ref aMo_sizes, .int Mo_defined, .ref aMo_kind, .ref aMo_what, .ref aMo_running, .ref aMo_at, .int Mo_deep, .ref aMo_limits, .ref aMo_counts, .ref aMo_owner, .int Mo_loops, .ref aMo_open, .int Mo_steps, .int Mo_fault, .int Mo_place])), (aMo_text, .inl (cI, 300, .inl w_Mo_text))]) (va_A [(aMo, .inr (11, [.ref aMo_text, .int Mo_length, .ref aMo_from, .ref aMo_to, .int Mo_words, .ref aMo_stack, .int Mo_height, .ref aMo_memory, .ref aMo_out, .int Mo_outs, .ref aMo_names, .ref aMo_starts, .ref aMo_sizes, .int Mo_defined, .ref aMo_kind, .ref aMo_what, .ref aMo_running, .ref aMo_at, .int Mo_deep, .ref aMo_limits, .ref aMo_counts, .ref aMo_owner, .int Mo_loops, .ref aMo_open, .int Mo_steps, .int Mo_fault, .int Mo_place])), (aMo_text, .inl (cI, 300, .inl Mo_text))] sz)) 0 0 (va_A [(aMo, .inr (11, [.ref aMo_text, .int Mo_length, .ref aMo_from, .ref aMo_to, .int Mo_words, .ref aMo_stack, .int Mo_height, .ref aMo_memory, .ref aMo_out, .int Mo_outs, .ref aMo_names, .ref aMo_starts, .ref aMo_sizes, .int Mo_defined, .ref aMo_kind, .ref aMo_what, .ref aMo_running, .ref aMo_at, .int Mo_deep, .ref aMo_limits, .ref aMo_counts, .ref aMo_owner, .int Mo_loops, .ref aMo_open, .int Mo_steps, .int Mo_fault, .int Mo_place])), (aMo_text, .inl (cI, 300, .inl Mo_text))] sz) := by
  refine Met.ofW (cc := cX12_feed) (maxL := 5) (ret := (some .int)) (by decide) rfl ?_
  intro p e s m args below meth c s₁ B hml hv
  obtain ⟨hargs, hsz, hP, hK, hD0⟩ := hv
  have hx := B.exec
  have hb := B.bytes
  have hr := B.returns
  have hts := atoms_spec (ws := wsX12_feed) B.pre
  have hown : s.vm.findClass RX12 = some m.cls := findClass_of_methodNamed B.named
  have hlocks := B.notSynchronized
  subst hsz
  have hD := hD0.self (sz := s.heap.size)
  generalize hAe : va_A [(aMo, .inr (11, [.ref aMo_text, .int Mo_length, .ref aMo_from, .ref aMo_to, .int Mo_words, .ref aMo_stack, .int Mo_height, .ref aMo_memory, .ref aMo_out, .int Mo_outs, .ref aMo_names, .ref aMo_starts, .ref aMo_sizes, .int Mo_defined, .ref aMo_kind, .ref aMo_what, .ref aMo_running, .ref aMo_at, .int Mo_deep, .ref aMo_limits, .ref aMo_counts, .ref aMo_owner, .int Mo_loops, .ref aMo_open, .int Mo_steps, .int Mo_fault, .int Mo_place])), (aMo_text, .inl (cI, 300, .inl Mo_text))] s.heap.size = A at hD ⊢
  have hA : ∀ q : Nat, s.heap.size ≤ q → A q := fun q h => by rw [← hAe]; exact Or.inr h
  have hS : va_S A s.heap s.heap [] := va_S.rf
  have hl := lv_entry ([.ref aMo, .int p0]) (n := 5) (Nat.le_of_ble_eq_true rfl)
  have hfr : entryFrame m args 5 = entryFrame m ([.ref aMo, .int p0] : List Value).toArray 5 := by rw [hargs]
  rw [hfr, lg_entry_eq]
  generalize (lg_sl ([.ref aMo, .int p0]) ++ List.replicate (5 - (lg_sl ([.ref aMo, .int p0])).length) Slot.unset).toArray = ls at hl ⊢
  have hl : lv_has ls 5 [(0, .ref aMo), (1, .int p0)] := hl
  refine nameQ_ (fun Q hQ => ?_)
  have hP : va_P (dC, dI) vwCl [(aMo, .inr (11, [.ref aMo_text, .int Mo_length, .ref aMo_from, .ref aMo_to, .int Mo_words, .ref aMo_stack, .int Mo_height, .ref aMo_memory, .ref aMo_out, .int Mo_outs, .ref aMo_names, .ref aMo_starts, .ref aMo_sizes, .int Mo_defined, .ref aMo_kind, .ref aMo_what, .ref aMo_running, .ref aMo_at, .int Mo_deep, .ref aMo_limits, .ref aMo_counts, .ref aMo_owner, .int Mo_loops, .ref aMo_open, .int Mo_steps, .int Mo_fault, .int Mo_place])), (aMo_text, .inl (cI, 300, .inl Mo_text))] s.heap := hP
  have hj_51 : ∀ (k4 : Int32 → Int32 → Int32 → (Nat → Int32) → Int32 → Option (Int32 × (Nat → Int32) × Int32)), (∀ (x1 : Int32) (x2 : Int32) (x3 : Int32) (Mo_text : Nat → Int32) (Mo_length : Int32) (H : Heap) (locs : List Loc) (ls : Array Slot), k4 x1 x2 x3 Mo_text Mo_length = some (rr, w_Mo_text, w_Mo_length) → va_P (dC, dI) vwCl [(aMo, .inr (11, [.ref aMo_text, .int Mo_length, .ref aMo_from, .ref aMo_to, .int Mo_words, .ref aMo_stack, .int Mo_height, .ref aMo_memory, .ref aMo_out, .int Mo_outs, .ref aMo_names, .ref aMo_starts, .ref aMo_sizes, .int Mo_defined, .ref aMo_kind, .ref aMo_what, .ref aMo_running, .ref aMo_at, .int Mo_deep, .ref aMo_limits, .ref aMo_counts, .ref aMo_owner, .int Mo_loops, .ref aMo_open, .int Mo_steps, .int Mo_fault, .int Mo_place])), (aMo_text, .inl (cI, 300, .inl Mo_text))] H → va_D A [(aMo, .inr (11, [.ref aMo_text, .int Mo_length, .ref aMo_from, .ref aMo_to, .int Mo_words, .ref aMo_stack, .int Mo_height, .ref aMo_memory, .ref aMo_out, .int Mo_outs, .ref aMo_names, .ref aMo_starts, .ref aMo_sizes, .int Mo_defined, .ref aMo_kind, .ref aMo_what, .ref aMo_running, .ref aMo_at, .int Mo_deep, .ref aMo_limits, .ref aMo_counts, .ref aMo_owner, .int Mo_loops, .ref aMo_open, .int Mo_steps, .int Mo_fault, .int Mo_place])), (aMo_text, .inl (cI, 300, .inl Mo_text))] → va_S A s.heap H locs → lv_has ls 5 [(1, .int x1), (2, .int x2), (3, .int x3), (0, .ref aMo)] → W p l e rmX12_feed s m args below meth c H locs 0 0 Q (F0 m 4 ls [])) → ∀ (x1 : Int32) (x2 : Int32) (x3 : Int32) (Mo_text : Nat → Int32) (Mo_length : Int32) (H : Heap) (locs : List Loc) (ls : Array Slot), fnX12_feed_51 k4 x1 x2 x3 Mo_text Mo_length = some (rr, w_Mo_text, w_Mo_length) → va_P (dC, dI) vwCl [(aMo, .inr (11, [.ref aMo_text, .int Mo_length, .ref aMo_from, .ref aMo_to, .int Mo_words, .ref aMo_stack, .int Mo_height, .ref aMo_memory, .ref aMo_out, .int Mo_outs, .ref aMo_names, .ref aMo_starts, .ref aMo_sizes, .int Mo_defined, .ref aMo_kind, .ref aMo_what, .ref aMo_running, .ref aMo_at, .int Mo_deep, .ref aMo_limits, .ref aMo_counts, .ref aMo_owner, .int Mo_loops, .ref aMo_open, .int Mo_steps, .int Mo_fault, .int Mo_place])), (aMo_text, .inl (cI, 300, .inl Mo_text))] H → va_D A [(aMo, .inr (11, [.ref aMo_text, .int Mo_length, .ref aMo_from, .ref aMo_to, .int Mo_words, .ref aMo_stack, .int Mo_height, .ref aMo_memory, .ref aMo_out, .int Mo_outs, .ref aMo_names, .ref aMo_starts, .ref aMo_sizes, .int Mo_defined, .ref aMo_kind, .ref aMo_what, .ref aMo_running, .ref aMo_at, .int Mo_deep, .ref aMo_limits, .ref aMo_counts, .ref aMo_owner, .int Mo_loops, .ref aMo_open, .int Mo_steps, .int Mo_fault, .int Mo_place])), (aMo_text, .inl (cI, 300, .inl Mo_text))] → va_S A s.heap H locs → lv_has ls 5 [(1, .int x1), (2, .int x2), (3, .int x3), (0, .ref aMo)] → W p l e rmX12_feed s m args below meth c H locs 0 0 Q (F0 m 51 ls []) := by
    intro k4 hk4 x1 x2 x3 Mo_text Mo_length H locs ls h hP hD hS hl
    unfold fnX12_feed_51 at h
    refine lv_iinc (v := x3 + (1 : Int32)) (lv' := [(3, .int (x3 + (1 : Int32))), (1, .int x1), (2, .int x2), (0, .ref aMo)]) hx hb dX12_feed_51 hl (k := 2) rfl rfl (by decide) rfl (fun ls hl => ?_)
    refine lv_goto (tgt := 4) hx hb dX12_feed_54 (by decide) ?_
    exact hk4 x1 x2 (x3 + (1 : Int32)) Mo_text Mo_length _ _ _ h hP hD hS (lv_sub hl [1, 2, 0, 3] rfl)
  have hj_73 : ∀ (n : Nat), ∀ (x1 : Int32) (x2 : Int32) (x3 : Int32) (Mo_text : Nat → Int32) (Mo_length : Int32) (H : Heap) (locs : List Loc) (ls : Array Slot), fnX12_feed_73 n x1 x2 x3 Mo_text Mo_length = some (rr, w_Mo_text, w_Mo_length) → va_P (dC, dI) vwCl [(aMo, .inr (11, [.ref aMo_text, .int Mo_length, .ref aMo_from, .ref aMo_to, .int Mo_words, .ref aMo_stack, .int Mo_height, .ref aMo_memory, .ref aMo_out, .int Mo_outs, .ref aMo_names, .ref aMo_starts, .ref aMo_sizes, .int Mo_defined, .ref aMo_kind, .ref aMo_what, .ref aMo_running, .ref aMo_at, .int Mo_deep, .ref aMo_limits, .ref aMo_counts, .ref aMo_owner, .int Mo_loops, .ref aMo_open, .int Mo_steps, .int Mo_fault, .int Mo_place])), (aMo_text, .inl (cI, 300, .inl Mo_text))] H → va_D A [(aMo, .inr (11, [.ref aMo_text, .int Mo_length, .ref aMo_from, .ref aMo_to, .int Mo_words, .ref aMo_stack, .int Mo_height, .ref aMo_memory, .ref aMo_out, .int Mo_outs, .ref aMo_names, .ref aMo_starts, .ref aMo_sizes, .int Mo_defined, .ref aMo_kind, .ref aMo_what, .ref aMo_running, .ref aMo_at, .int Mo_deep, .ref aMo_limits, .ref aMo_counts, .ref aMo_owner, .int Mo_loops, .ref aMo_open, .int Mo_steps, .int Mo_fault, .int Mo_place])), (aMo_text, .inl (cI, 300, .inl Mo_text))] → va_S A s.heap H locs → lv_has ls 5 [(1, .int x1), (2, .int x2), (3, .int x3), (0, .ref aMo)] → W p l e rmX12_feed s m args below meth c H locs 0 0 Q (F0 m 73 ls []) := by
    intro n
    induction n with
    | zero =>
      intro x1 x2 x3 Mo_text Mo_length H locs ls h
      cases h
    | succ n ih =>
      intro x1 x2 x3 Mo_text Mo_length H locs ls h hP hD hS hl
      rw [fnX12_feed_73] at h
      refine lv_iload_n hx hb dX12_feed_73 rfl (lv_at hl 2 rfl) ?_
      refine lv_iload_n hx hb dX12_feed_74 rfl (lv_at hl 1 rfl) ?_
      refine lv_icmp_ge (tgt := 105) hx hb dX12_feed_75 (by decide) (fun c_1 => ?_) (fun c_1 => ?_)
      · have h := it_t c_1 h
        refine lv_aload_n hx hb dX12_feed_105 rfl (lv_at hl 3 rfl) ?_
        refine lv_aload_n hx hb dX12_feed_106 rfl (lv_at hl 3 rfl) ?_
        refine va_get (D := (dC, dI)) (ci := 11) (v := .int Mo_length) (C := RX12) (T := TX12) (N := 27) hx hb hts (fun w h => List.mem_cons_of_mem _ (inX12 w h)) hown hK hP 0 rfl rfl 1 (by decide) (hts _ (List.mem_cons_of_mem _ mw_404)) (fun _ h9 => h9) rfl dX12_feed_107 ?_
        refine lv_iload_n hx hb dX12_feed_110 rfl (lv_at hl 1 rfl) ?_
        refine lv_iadd hx hb dX12_feed_111 ?_
        refine va_put (D := (dC, dI)) (ci := 11) (v := .int (Mo_length + x2)) (ty := .int) (C := RX12) (T := TX12) (N := 27) hx hb hts (fun w h => List.mem_cons_of_mem _ (inX12 w h)) tyX12 tyX12_ok nmX12 hown hK hP hD hS 0 rfl rfl 1 (by decide) (hts _ (List.mem_cons_of_mem _ mw_404)) (fun _ h9 => h9) rfl (by decide +kernel) rfl rfl (Nat.le_of_ble_eq_true rfl) dX12_feed_112 (fun H locs hP hD hS => ?_)
        have hP : va_P (dC, dI) vwCl [(aMo, .inr (11, [.ref aMo_text, .int (Mo_length + x2), .ref aMo_from, .ref aMo_to, .int Mo_words, .ref aMo_stack, .int Mo_height, .ref aMo_memory, .ref aMo_out, .int Mo_outs, .ref aMo_names, .ref aMo_starts, .ref aMo_sizes, .int Mo_defined, .ref aMo_kind, .ref aMo_what, .ref aMo_running, .ref aMo_at, .int Mo_deep, .ref aMo_limits, .ref aMo_counts, .ref aMo_owner, .int Mo_loops, .ref aMo_open, .int Mo_steps, .int Mo_fault, .int Mo_place])), (aMo_text, .inl (cI, 300, .inl Mo_text))] H := hP
        have hD : va_D A [(aMo, .inr (11, [.ref aMo_text, .int (Mo_length + x2), .ref aMo_from, .ref aMo_to, .int Mo_words, .ref aMo_stack, .int Mo_height, .ref aMo_memory, .ref aMo_out, .int Mo_outs, .ref aMo_names, .ref aMo_starts, .ref aMo_sizes, .int Mo_defined, .ref aMo_kind, .ref aMo_what, .ref aMo_running, .ref aMo_at, .int Mo_deep, .ref aMo_limits, .ref aMo_counts, .ref aMo_owner, .int Mo_loops, .ref aMo_open, .int Mo_steps, .int Mo_fault, .int Mo_place])), (aMo_text, .inl (cI, 300, .inl Mo_text))] := hD
        refine lv_iload_n hx hb dX12_feed_115 rfl (lv_at hl 1 rfl) ?_
        cases h
        rw [hQ]
        exact W.iret hx hb hr (fun t ht hW => ⟨⟨_, (), rfl, rfl, by rw [ht]; exact hP, va_K.moved hW.alike hK, hD⟩, hS.F ht⟩) hS.2.2 dX12_feed_116
      · have h := it_f c_1 h
        refine lv_aload_n hx hb dX12_feed_78 rfl (lv_at hl 3 rfl) ?_
        refine va_get (D := (dC, dI)) (ci := 11) (v := .ref aMo_text) (C := RX12) (T := TX12) (N := 27) hx hb hts (fun w h => List.mem_cons_of_mem _ (inX12 w h)) hown hK hP 0 rfl rfl 0 (by decide) (hts _ (List.mem_cons_of_mem _ mw_405)) (fun _ h9 => h9) rfl dX12_feed_79 ?_
        refine lv_aload_n hx hb dX12_feed_82 rfl (lv_at hl 3 rfl) ?_
        refine va_get (D := (dC, dI)) (ci := 11) (v := .int Mo_length) (C := RX12) (T := TX12) (N := 27) hx hb hts (fun w h => List.mem_cons_of_mem _ (inX12 w h)) hown hK hP 0 rfl rfl 1 (by decide) (hts _ (List.mem_cons_of_mem _ mw_404)) (fun _ h9 => h9) rfl dX12_feed_83 ?_
        refine lv_iload_n hx hb dX12_feed_86 rfl (lv_at hl 2 rfl) ?_
        refine lv_iadd hx hb dX12_feed_87 ?_
        refine lv_iload_n hx hb dX12_feed_88 rfl (lv_at hl 0 rfl) ?_
        refine lv_bipush (v := (8 : Int32)) hx hb dX12_feed_89 (by decide) ?_
        refine lv_iload_n hx hb dX12_feed_91 rfl (lv_at hl 2 rfl) ?_
        refine lv_imul hx hb dX12_feed_92 ?_
        refine lv_ishr hx hb dX12_feed_93 ?_
        refine lv_sipush (v := (255 : Int32)) hx hb dX12_feed_94 (by decide) ?_
        refine lv_iand hx hb dX12_feed_97 ?_
        obtain ⟨f_2, hi_3, h⟩ := bd1_some h
        obtain ⟨hi_3, ex_4⟩ := sa_some hi_3
        refine va_iast hx hb hK hP hD hS 1 0 rfl rfl hi_3 dX12_feed_98 (fun H locs hP hD hS => ?_)
        rw [← ex_4] at hP hD
        have hP : va_P (dC, dI) vwCl [(aMo, .inr (11, [.ref aMo_text, .int Mo_length, .ref aMo_from, .ref aMo_to, .int Mo_words, .ref aMo_stack, .int Mo_height, .ref aMo_memory, .ref aMo_out, .int Mo_outs, .ref aMo_names, .ref aMo_starts, .ref aMo_sizes, .int Mo_defined, .ref aMo_kind, .ref aMo_what, .ref aMo_running, .ref aMo_at, .int Mo_deep, .ref aMo_limits, .ref aMo_counts, .ref aMo_owner, .int Mo_loops, .ref aMo_open, .int Mo_steps, .int Mo_fault, .int Mo_place])), (aMo_text, .inl (cI, 300, .inl f_2))] H := hP
        have hD : va_D A [(aMo, .inr (11, [.ref aMo_text, .int Mo_length, .ref aMo_from, .ref aMo_to, .int Mo_words, .ref aMo_stack, .int Mo_height, .ref aMo_memory, .ref aMo_out, .int Mo_outs, .ref aMo_names, .ref aMo_starts, .ref aMo_sizes, .int Mo_defined, .ref aMo_kind, .ref aMo_what, .ref aMo_running, .ref aMo_at, .int Mo_deep, .ref aMo_limits, .ref aMo_counts, .ref aMo_owner, .int Mo_loops, .ref aMo_open, .int Mo_steps, .int Mo_fault, .int Mo_place])), (aMo_text, .inl (cI, 300, .inl f_2))] := hD
        refine lv_iinc (v := x3 + (1 : Int32)) (lv' := [(3, .int (x3 + (1 : Int32))), (1, .int x1), (2, .int x2), (0, .ref aMo)]) hx hb dX12_feed_99 hl (k := 2) rfl rfl (by decide) rfl (fun ls hl => ?_)
        refine lv_goto (tgt := 73) hx hb dX12_feed_102 (by decide) ?_
        exact ih x1 x2 (x3 + (1 : Int32)) f_2 Mo_length _ _ _ h hP hD hS (lv_sub hl [1, 2, 0, 3] rfl)
  have hj_4 : ∀ (n : Nat), ∀ (x1 : Int32) (x2 : Int32) (x3 : Int32) (Mo_text : Nat → Int32) (Mo_length : Int32) (H : Heap) (locs : List Loc) (ls : Array Slot), fnX12_feed_4 n x1 x2 x3 Mo_text Mo_length = some (rr, w_Mo_text, w_Mo_length) → va_P (dC, dI) vwCl [(aMo, .inr (11, [.ref aMo_text, .int Mo_length, .ref aMo_from, .ref aMo_to, .int Mo_words, .ref aMo_stack, .int Mo_height, .ref aMo_memory, .ref aMo_out, .int Mo_outs, .ref aMo_names, .ref aMo_starts, .ref aMo_sizes, .int Mo_defined, .ref aMo_kind, .ref aMo_what, .ref aMo_running, .ref aMo_at, .int Mo_deep, .ref aMo_limits, .ref aMo_counts, .ref aMo_owner, .int Mo_loops, .ref aMo_open, .int Mo_steps, .int Mo_fault, .int Mo_place])), (aMo_text, .inl (cI, 300, .inl Mo_text))] H → va_D A [(aMo, .inr (11, [.ref aMo_text, .int Mo_length, .ref aMo_from, .ref aMo_to, .int Mo_words, .ref aMo_stack, .int Mo_height, .ref aMo_memory, .ref aMo_out, .int Mo_outs, .ref aMo_names, .ref aMo_starts, .ref aMo_sizes, .int Mo_defined, .ref aMo_kind, .ref aMo_what, .ref aMo_running, .ref aMo_at, .int Mo_deep, .ref aMo_limits, .ref aMo_counts, .ref aMo_owner, .int Mo_loops, .ref aMo_open, .int Mo_steps, .int Mo_fault, .int Mo_place])), (aMo_text, .inl (cI, 300, .inl Mo_text))] → va_S A s.heap H locs → lv_has ls 5 [(1, .int x1), (2, .int x2), (3, .int x3), (0, .ref aMo)] → W p l e rmX12_feed s m args below meth c H locs 0 0 Q (F0 m 4 ls []) := by
    intro n
    induction n with
    | zero =>
      intro x1 x2 x3 Mo_text Mo_length H locs ls h
      cases h
    | succ n ih =>
      intro x1 x2 x3 Mo_text Mo_length H locs ls h hP hD hS hl
      rw [fnX12_feed_4] at h
      refine lv_iload_n hx hb dX12_feed_4 rfl (lv_at hl 2 rfl) ?_
      refine lv_iconst (v := (4 : Int32)) hx hb dX12_feed_5 (by decide) ?_
      refine lv_icmp_ge (tgt := 57) hx hb dX12_feed_6 (by decide) (fun c_5 => ?_) (fun c_5 => ?_)
      · have h := it_t c_5 h
        refine lv_aload_n hx hb dX12_feed_57 rfl (lv_at hl 3 rfl) ?_
        refine va_get (D := (dC, dI)) (ci := 11) (v := .int Mo_length) (C := RX12) (T := TX12) (N := 27) hx hb hts (fun w h => List.mem_cons_of_mem _ (inX12 w h)) hown hK hP 0 rfl rfl 1 (by decide) (hts _ (List.mem_cons_of_mem _ mw_404)) (fun _ h9 => h9) rfl dX12_feed_58 ?_
        refine lv_iload_n hx hb dX12_feed_61 rfl (lv_at hl 1 rfl) ?_
        refine lv_iadd hx hb dX12_feed_62 ?_
        refine lv_sipush (v := (300 : Int32)) hx hb dX12_feed_63 (by decide) ?_
        refine lv_icmp_le (tgt := 71) hx hb dX12_feed_66 (by decide) (fun c_6 => ?_) (fun c_6 => ?_)
        · have h := it_t c_6 h
          refine lv_iconst (v := (0 : Int32)) hx hb dX12_feed_71 (by decide) ?_
          refine lv_istore_n (lv' := [(3, .int (0 : Int32)), (1, .int x1), (2, .int x2), (0, .ref aMo)]) hx hb dX12_feed_72 rfl hl (by decide) rfl (fun ls hl => ?_)
          exact hj_73 fuel_ x1 x2 (0 : Int32) Mo_text Mo_length _ _ _ h hP hD hS (lv_sub hl [1, 2, 0, 3] rfl)
        · have h := it_f c_6 h
          refine lv_iconst (v := (-1 : Int32)) hx hb dX12_feed_69 (by decide) ?_
          cases h
          rw [hQ]
          exact W.iret hx hb hr (fun t ht hW => ⟨⟨_, (), rfl, rfl, by rw [ht]; exact hP, va_K.moved hW.alike hK, hD⟩, hS.F ht⟩) hS.2.2 dX12_feed_70
      · have h := it_f c_5 h
        refine lv_iload_n hx hb dX12_feed_9 rfl (lv_at hl 0 rfl) ?_
        refine lv_bipush (v := (8 : Int32)) hx hb dX12_feed_10 (by decide) ?_
        refine lv_iload_n hx hb dX12_feed_12 rfl (lv_at hl 2 rfl) ?_
        refine lv_imul hx hb dX12_feed_13 ?_
        refine lv_ishr hx hb dX12_feed_14 ?_
        refine lv_sipush (v := (255 : Int32)) hx hb dX12_feed_15 (by decide) ?_
        refine lv_iand hx hb dX12_feed_18 ?_
        refine lv_istore (lv' := [(4, .int ((x1 >>> (((8 : Int32) * x3) &&& 31)) &&& (255 : Int32))), (1, .int x1), (2, .int x2), (3, .int x3), (0, .ref aMo)]) hx hb dX12_feed_19 hl (by decide) rfl (fun ls hl => ?_)
        refine lv_iload_n hx hb dX12_feed_21 rfl (lv_at hl 2 rfl) ?_
        refine lv_iload_n hx hb dX12_feed_22 rfl (lv_at hl 3 rfl) ?_
        refine lv_icmp_ne (tgt := 51) hx hb dX12_feed_23 (by decide) (fun c_7 => ?_) (fun c_7 => ?_)
        · have h := it_f c_7 h
          exact hj_51 ((fnX12_feed_4 n)) ih x1 x2 x3 Mo_text Mo_length _ _ _ h hP hD hS (lv_sub hl [1, 2, 3, 4] rfl)
        · have h := it_t c_7 h
          refine lv_iload hx hb dX12_feed_26 (lv_at hl 0 rfl) ?_
          refine lv_if_eq (tgt := 51) hx hb dX12_feed_28 (by decide) (fun c_8 => ?_) (fun c_8 => ?_)
          · have h := it_t c_8 h
            exact hj_51 ((fnX12_feed_4 n)) ih x1 x2 x3 Mo_text Mo_length _ _ _ h hP hD hS (lv_sub hl [1, 2, 3, 4] rfl)
          · have h := it_f c_8 h
            refine lv_iload hx hb dX12_feed_31 (lv_at hl 0 rfl) ?_
            refine lv_bipush (v := (32 : Int32)) hx hb dX12_feed_33 (by decide) ?_
            refine lv_icmp_lt (tgt := 45) hx hb dX12_feed_35 (by decide) (fun c_9 => ?_) (fun c_9 => ?_)
            · have h := it_t c_9 h
              refine lv_iconst (v := (-1 : Int32)) hx hb dX12_feed_45 (by decide) ?_
              cases h
              rw [hQ]
              exact W.iret hx hb hr (fun t ht hW => ⟨⟨_, (), rfl, rfl, by rw [ht]; exact hP, va_K.moved hW.alike hK, hD⟩, hS.F ht⟩) hS.2.2 dX12_feed_46
            · have h := it_f c_9 h
              refine lv_iload hx hb dX12_feed_38 (lv_at hl 0 rfl) ?_
              refine lv_bipush (v := (126 : Int32)) hx hb dX12_feed_40 (by decide) ?_
              refine lv_icmp_le (tgt := 47) hx hb dX12_feed_42 (by decide) (fun c_10 => ?_) (fun c_10 => ?_)
              · have h := it_t c_10 h
                refine lv_iload_n hx hb dX12_feed_47 rfl (lv_at hl 2 rfl) ?_
                refine lv_iconst (v := (1 : Int32)) hx hb dX12_feed_48 (by decide) ?_
                refine lv_iadd hx hb dX12_feed_49 ?_
                refine lv_istore_n (lv' := [(2, .int (x2 + (1 : Int32))), (4, .int ((x1 >>> (((8 : Int32) * x3) &&& 31)) &&& (255 : Int32))), (1, .int x1), (3, .int x3), (0, .ref aMo)]) hx hb dX12_feed_50 rfl hl (by decide) rfl (fun ls hl => ?_)
                exact hj_51 ((fnX12_feed_4 n)) ih x1 (x2 + (1 : Int32)) x3 Mo_text Mo_length _ _ _ h hP hD hS (lv_sub hl [2, 0, 3, 4] rfl)
              · have h := it_f c_10 h
                refine lv_iconst (v := (-1 : Int32)) hx hb dX12_feed_45 (by decide) ?_
                cases h
                rw [hQ]
                exact W.iret hx hb hr (fun t ht hW => ⟨⟨_, (), rfl, rfl, by rw [ht]; exact hP, va_K.moved hW.alike hK, hD⟩, hS.F ht⟩) hS.2.2 dX12_feed_46
  unfold fnX12_feed at h
  refine lv_iconst (v := (0 : Int32)) hx hb dX12_feed_0 (by decide) ?_
  refine lv_istore_n (lv' := [(2, .int (0 : Int32)), (0, .ref aMo), (1, .int p0)]) hx hb dX12_feed_1 rfl hl (by decide) rfl (fun ls hl => ?_)
  refine lv_iconst (v := (0 : Int32)) hx hb dX12_feed_2 (by decide) ?_
  refine lv_istore_n (lv' := [(3, .int (0 : Int32)), (2, .int (0 : Int32)), (0, .ref aMo), (1, .int p0)]) hx hb dX12_feed_3 rfl hl (by decide) rfl (fun ls hl => ?_)
  exact hj_4 fuel_ p0 (0 : Int32) (0 : Int32) Mo_text Mo_length _ _ _ h hP hD hS (lv_sub hl [3, 1, 0, 2] rfl)
abbrev rmX12_clear : Room := { frames := 0, cells := 0, slots := 0, locals := 0 }
set_option maxHeartbeats 4000000 in
set_option maxRecDepth 100000 in
theorem ctX12_clear (l : Launch) (dC : Nat → ClassId) (dI : Nat → Nat → Nat) (cI cC cJ : ClassId) (aMo aMo_text aMo_from aMo_to aMo_stack aMo_memory aMo_out aMo_names aMo_starts aMo_sizes aMo_kind aMo_what aMo_running aMo_at aMo_limits aMo_counts aMo_owner aMo_open : Nat) (sz : Nat) (Mo_length : Int32) (Mo_words : Int32) (Mo_height : Int32) (Mo_outs : Int32) (Mo_defined : Int32) (Mo_deep : Int32) (Mo_loops : Int32) (Mo_steps : Int32) (Mo_fault : Int32) (Mo_place : Int32)  (w_Mo_length : Int32) (h : fnX12_clear Mo_length  = some w_Mo_length) : Met l yX12_clear wsX12_clear rmX12_clear (va_Pc [.ref aMo] (fun U => U.heap.size = sz ∧ va_P (dC, dI) vwCl [(aMo, .inr (11, [.ref aMo_text, .int Mo_length, .ref aMo_from, .ref aMo_to, .int Mo_words, .ref aMo_stack, .int Mo_height, .ref aMo_memory, .ref aMo_out, .int Mo_outs, .ref aMo_names, .ref aMo_starts, .ref aMo_sizes, .int Mo_defined, .ref aMo_kind, .ref aMo_what, .ref aMo_running, .ref aMo_at, .int Mo_deep, .ref aMo_limits, .ref aMo_counts, .ref aMo_owner, .int Mo_loops, .ref aMo_open, .int Mo_steps, .int Mo_fault, .int Mo_place]))] U.heap ∧ va_K (dC, dI) vwCl [(cI, .int), (cC, .char), (cJ, .long)] U ∧ va_D (fun _ => True) [(aMo, .inr (11, [.ref aMo_text, .int Mo_length, .ref aMo_from, .ref aMo_to, .int Mo_words, .ref aMo_stack, .int Mo_height, .ref aMo_memory, .ref aMo_out, .int Mo_outs, .ref aMo_names, .ref aMo_starts, .ref aMo_sizes, .int Mo_defined, .ref aMo_kind, .ref aMo_what, .ref aMo_running, .ref aMo_at, .int Mo_deep, .ref aMo_limits, .ref aMo_counts, .ref aMo_owner, .int Mo_loops, .ref aMo_open, .int Mo_steps, .int Mo_fault, .int Mo_place]))])) (va_Qv (fun (_ : Unit) => True) (fun _ t => va_P (dC, dI) vwCl [(aMo, .inr (11, [.ref aMo_text, .int w_Mo_length, .ref aMo_from, .ref aMo_to, .int Mo_words, .ref aMo_stack, .int Mo_height, .ref aMo_memory, .ref aMo_out, .int Mo_outs, .ref aMo_names, .ref aMo_starts, .ref aMo_sizes, .int Mo_defined, .ref aMo_kind, .ref aMo_what, .ref aMo_running, .ref aMo_at, .int Mo_deep, .ref aMo_limits, .ref aMo_counts, .ref aMo_owner, .int Mo_loops, .ref aMo_open, .int Mo_steps, .int Mo_fault, .int Mo_place]))] t.heap ∧ va_K (dC, dI) vwCl [(cI, .int), (cC, .char), (cJ, .long)] t ∧ va_D (va_A [(aMo, .inr (11, [.ref aMo_text, .int Mo_length, .ref aMo_from, .ref aMo_to, .int Mo_words, .ref aMo_stack, .int Mo_height, .ref aMo_memory, .ref aMo_out, .int Mo_outs, .ref aMo_names, .ref aMo_starts, .ref aMo_sizes, .int Mo_defined, .ref aMo_kind, .ref aMo_what, .ref aMo_running, .ref aMo_at, .int Mo_deep, .ref aMo_limits, .ref aMo_counts, .ref aMo_owner, .int Mo_loops, .ref aMo_open, .int Mo_steps, .int Mo_fault, .int Mo_place]))] sz) [(aMo, .inr (11, [.ref aMo_text, .int w_Mo_length, .ref aMo_from, .ref aMo_to, .int Mo_words, .ref aMo_stack, .int Mo_height, .ref aMo_memory, .ref aMo_out, .int Mo_outs, .ref aMo_names, .ref aMo_starts, .ref aMo_sizes, .int Mo_defined, .ref aMo_kind, .ref aMo_what, .ref aMo_running, .ref aMo_at, .int Mo_deep, .ref aMo_limits, .ref aMo_counts, .ref aMo_owner, .int Mo_loops, .ref aMo_open, .int Mo_steps, .int Mo_fault, .int Mo_place]))]) (va_A [(aMo, .inr (11, [.ref aMo_text, .int Mo_length, .ref aMo_from, .ref aMo_to, .int Mo_words, .ref aMo_stack, .int Mo_height, .ref aMo_memory, .ref aMo_out, .int Mo_outs, .ref aMo_names, .ref aMo_starts, .ref aMo_sizes, .int Mo_defined, .ref aMo_kind, .ref aMo_what, .ref aMo_running, .ref aMo_at, .int Mo_deep, .ref aMo_limits, .ref aMo_counts, .ref aMo_owner, .int Mo_loops, .ref aMo_open, .int Mo_steps, .int Mo_fault, .int Mo_place]))] sz)) 0 0 (va_A [(aMo, .inr (11, [.ref aMo_text, .int Mo_length, .ref aMo_from, .ref aMo_to, .int Mo_words, .ref aMo_stack, .int Mo_height, .ref aMo_memory, .ref aMo_out, .int Mo_outs, .ref aMo_names, .ref aMo_starts, .ref aMo_sizes, .int Mo_defined, .ref aMo_kind, .ref aMo_what, .ref aMo_running, .ref aMo_at, .int Mo_deep, .ref aMo_limits, .ref aMo_counts, .ref aMo_owner, .int Mo_loops, .ref aMo_open, .int Mo_steps, .int Mo_fault, .int Mo_place]))] sz) := by
  refine Met.ofW (cc := cX12_clear) (maxL := 1) (ret := none) (by decide) rfl ?_
  intro p e s m args below meth c s₁ B hml hv
  obtain ⟨hargs, hsz, hP, hK, hD0⟩ := hv
  have hx := B.exec
  have hb := B.bytes
  have hr := B.returns
  have hts := atoms_spec (ws := wsX12_clear) B.pre
  have hown : s.vm.findClass RX12 = some m.cls := findClass_of_methodNamed B.named
  have hlocks := B.notSynchronized
  subst hsz
  have hD := hD0.self (sz := s.heap.size)
  generalize hAe : va_A [(aMo, .inr (11, [.ref aMo_text, .int Mo_length, .ref aMo_from, .ref aMo_to, .int Mo_words, .ref aMo_stack, .int Mo_height, .ref aMo_memory, .ref aMo_out, .int Mo_outs, .ref aMo_names, .ref aMo_starts, .ref aMo_sizes, .int Mo_defined, .ref aMo_kind, .ref aMo_what, .ref aMo_running, .ref aMo_at, .int Mo_deep, .ref aMo_limits, .ref aMo_counts, .ref aMo_owner, .int Mo_loops, .ref aMo_open, .int Mo_steps, .int Mo_fault, .int Mo_place]))] s.heap.size = A at hD ⊢
  have hA : ∀ q : Nat, s.heap.size ≤ q → A q := fun q h => by rw [← hAe]; exact Or.inr h
  have hS : va_S A s.heap s.heap [] := va_S.rf
  have hl := lv_entry ([.ref aMo]) (n := 1) (Nat.le_of_ble_eq_true rfl)
  have hfr : entryFrame m args 1 = entryFrame m ([.ref aMo] : List Value).toArray 1 := by rw [hargs]
  rw [hfr, lg_entry_eq]
  generalize (lg_sl ([.ref aMo]) ++ List.replicate (1 - (lg_sl ([.ref aMo])).length) Slot.unset).toArray = ls at hl ⊢
  have hl : lv_has ls 1 [(0, .ref aMo)] := hl
  refine nameQ_ (fun Q hQ => ?_)
  unfold fnX12_clear at h
  refine lv_aload_n hx hb dX12_clear_0 rfl (lv_at hl 0 rfl) ?_
  refine lv_iconst (v := (0 : Int32)) hx hb dX12_clear_1 (by decide) ?_
  refine va_put (D := (dC, dI)) (ci := 11) (v := .int (0 : Int32)) (ty := .int) (C := RX12) (T := TX12) (N := 27) hx hb hts (fun w h => List.mem_cons_of_mem _ (inX12 w h)) tyX12 tyX12_ok nmX12 hown hK hP hD hS 0 rfl rfl 1 (by decide) (hts _ (List.mem_cons_of_mem _ mw_404)) (fun _ h9 => h9) rfl (by decide +kernel) rfl rfl (Nat.le_of_ble_eq_true rfl) dX12_clear_2 (fun H locs hP hD hS => ?_)
  have hP : va_P (dC, dI) vwCl [(aMo, .inr (11, [.ref aMo_text, .int (0 : Int32), .ref aMo_from, .ref aMo_to, .int Mo_words, .ref aMo_stack, .int Mo_height, .ref aMo_memory, .ref aMo_out, .int Mo_outs, .ref aMo_names, .ref aMo_starts, .ref aMo_sizes, .int Mo_defined, .ref aMo_kind, .ref aMo_what, .ref aMo_running, .ref aMo_at, .int Mo_deep, .ref aMo_limits, .ref aMo_counts, .ref aMo_owner, .int Mo_loops, .ref aMo_open, .int Mo_steps, .int Mo_fault, .int Mo_place]))] H := hP
  have hD : va_D A [(aMo, .inr (11, [.ref aMo_text, .int (0 : Int32), .ref aMo_from, .ref aMo_to, .int Mo_words, .ref aMo_stack, .int Mo_height, .ref aMo_memory, .ref aMo_out, .int Mo_outs, .ref aMo_names, .ref aMo_starts, .ref aMo_sizes, .int Mo_defined, .ref aMo_kind, .ref aMo_what, .ref aMo_running, .ref aMo_at, .int Mo_deep, .ref aMo_limits, .ref aMo_counts, .ref aMo_owner, .int Mo_loops, .ref aMo_open, .int Mo_steps, .int Mo_fault, .int Mo_place]))] := hD
  cases h
  rw [hQ]
  exact W.vret hx hb hr (fun t ht hW => ⟨⟨(), rfl, trivial, by rw [ht]; exact hP, va_K.moved hW.alike hK, hD⟩, hS.F ht⟩) hS.2.2 dX12_clear_5
abbrev rmX12_split : Room := { frames := 0, cells := 0, slots := 0, locals := 0 }
set_option maxHeartbeats 4000000 in
set_option maxRecDepth 100000 in
theorem ctX12_split (l : Launch) (dC : Nat → ClassId) (dI : Nat → Nat → Nat) (cI cC cJ : ClassId) (aMo aMo_text aMo_from aMo_to aMo_stack aMo_memory aMo_out aMo_names aMo_starts aMo_sizes aMo_kind aMo_what aMo_running aMo_at aMo_limits aMo_counts aMo_owner aMo_open : Nat) (sz : Nat) (Mo_text : Nat → Int32) (Mo_length : Int32) (Mo_from : Nat → Int32) (Mo_to : Nat → Int32) (Mo_words : Int32) (Mo_height : Int32) (Mo_outs : Int32) (Mo_defined : Int32) (Mo_deep : Int32) (Mo_loops : Int32) (Mo_steps : Int32) (Mo_fault : Int32) (Mo_place : Int32)  (w_Mo_from : Nat → Int32) (w_Mo_to : Nat → Int32) (w_Mo_words : Int32) (h : fnX12_split Mo_text Mo_length Mo_from Mo_to Mo_words  = some (w_Mo_from, w_Mo_to, w_Mo_words)) : Met l yX12_split wsX12_split rmX12_split (va_Pc [.ref aMo] (fun U => U.heap.size = sz ∧ va_P (dC, dI) vwCl [(aMo, .inr (11, [.ref aMo_text, .int Mo_length, .ref aMo_from, .ref aMo_to, .int Mo_words, .ref aMo_stack, .int Mo_height, .ref aMo_memory, .ref aMo_out, .int Mo_outs, .ref aMo_names, .ref aMo_starts, .ref aMo_sizes, .int Mo_defined, .ref aMo_kind, .ref aMo_what, .ref aMo_running, .ref aMo_at, .int Mo_deep, .ref aMo_limits, .ref aMo_counts, .ref aMo_owner, .int Mo_loops, .ref aMo_open, .int Mo_steps, .int Mo_fault, .int Mo_place])), (aMo_text, .inl (cI, 300, .inl Mo_text)), (aMo_from, .inl (cI, 150, .inl Mo_from)), (aMo_to, .inl (cI, 150, .inl Mo_to))] U.heap ∧ va_K (dC, dI) vwCl [(cI, .int), (cC, .char), (cJ, .long)] U ∧ va_D (fun _ => True) [(aMo, .inr (11, [.ref aMo_text, .int Mo_length, .ref aMo_from, .ref aMo_to, .int Mo_words, .ref aMo_stack, .int Mo_height, .ref aMo_memory, .ref aMo_out, .int Mo_outs, .ref aMo_names, .ref aMo_starts, .ref aMo_sizes, .int Mo_defined, .ref aMo_kind, .ref aMo_what, .ref aMo_running, .ref aMo_at, .int Mo_deep, .ref aMo_limits, .ref aMo_counts, .ref aMo_owner, .int Mo_loops, .ref aMo_open, .int Mo_steps, .int Mo_fault, .int Mo_place])), (aMo_text, .inl (cI, 300, .inl Mo_text)), (aMo_from, .inl (cI, 150, .inl Mo_from)), (aMo_to, .inl (cI, 150, .inl Mo_to))])) (va_Qv (fun (_ : Unit) => True) (fun _ t => va_P (dC, dI) vwCl [(aMo, .inr (11, [.ref aMo_text, .int Mo_length, .ref aMo_from, .ref aMo_to, .int w_Mo_words, .ref aMo_stack, .int Mo_height, .ref aMo_memory, .ref aMo_out, .int Mo_outs, .ref aMo_names, .ref aMo_starts, .ref aMo_sizes, .int Mo_defined, .ref aMo_kind, .ref aMo_what, .ref aMo_running, .ref aMo_at, .int Mo_deep, .ref aMo_limits, .ref aMo_counts, .ref aMo_owner, .int Mo_loops, .ref aMo_open, .int Mo_steps, .int Mo_fault, .int Mo_place])), (aMo_text, .inl (cI, 300, .inl Mo_text)), (aMo_from, .inl (cI, 150, .inl w_Mo_from)), (aMo_to, .inl (cI, 150, .inl w_Mo_to))] t.heap ∧ va_K (dC, dI) vwCl [(cI, .int), (cC, .char), (cJ, .long)] t ∧ va_D (va_A [(aMo, .inr (11, [.ref aMo_text, .int Mo_length, .ref aMo_from, .ref aMo_to, .int Mo_words, .ref aMo_stack, .int Mo_height, .ref aMo_memory, .ref aMo_out, .int Mo_outs, .ref aMo_names, .ref aMo_starts, .ref aMo_sizes, .int Mo_defined, .ref aMo_kind, .ref aMo_what, .ref aMo_running, .ref aMo_at, .int Mo_deep, .ref aMo_limits, .ref aMo_counts, .ref aMo_owner, .int Mo_loops, .ref aMo_open, .int Mo_steps, .int Mo_fault, .int Mo_place])), (aMo_text, .inl (cI, 300, .inl Mo_text)), (aMo_from, .inl (cI, 150, .inl Mo_from)), (aMo_to, .inl (cI, 150, .inl Mo_to))] sz) [(aMo, .inr (11, [.ref aMo_text, .int Mo_length, .ref aMo_from, .ref aMo_to, .int w_Mo_words, .ref aMo_stack, .int Mo_height, .ref aMo_memory, .ref aMo_out, .int Mo_outs, .ref aMo_names, .ref aMo_starts, .ref aMo_sizes, .int Mo_defined, .ref aMo_kind, .ref aMo_what, .ref aMo_running, .ref aMo_at, .int Mo_deep, .ref aMo_limits, .ref aMo_counts, .ref aMo_owner, .int Mo_loops, .ref aMo_open, .int Mo_steps, .int Mo_fault, .int Mo_place])), (aMo_text, .inl (cI, 300, .inl Mo_text)), (aMo_from, .inl (cI, 150, .inl w_Mo_from)), (aMo_to, .inl (cI, 150, .inl w_Mo_to))]) (va_A [(aMo, .inr (11, [.ref aMo_text, .int Mo_length, .ref aMo_from, .ref aMo_to, .int Mo_words, .ref aMo_stack, .int Mo_height, .ref aMo_memory, .ref aMo_out, .int Mo_outs, .ref aMo_names, .ref aMo_starts, .ref aMo_sizes, .int Mo_defined, .ref aMo_kind, .ref aMo_what, .ref aMo_running, .ref aMo_at, .int Mo_deep, .ref aMo_limits, .ref aMo_counts, .ref aMo_owner, .int Mo_loops, .ref aMo_open, .int Mo_steps, .int Mo_fault, .int Mo_place])), (aMo_text, .inl (cI, 300, .inl Mo_text)), (aMo_from, .inl (cI, 150, .inl Mo_from)), (aMo_to, .inl (cI, 150, .inl Mo_to))] sz)) 0 0 (va_A [(aMo, .inr (11, [.ref aMo_text, .int Mo_length, .ref aMo_from, .ref aMo_to, .int Mo_words, .ref aMo_stack, .int Mo_height, .ref aMo_memory, .ref aMo_out, .int Mo_outs, .ref aMo_names, .ref aMo_starts, .ref aMo_sizes, .int Mo_defined, .ref aMo_kind, .ref aMo_what, .ref aMo_running, .ref aMo_at, .int Mo_deep, .ref aMo_limits, .ref aMo_counts, .ref aMo_owner, .int Mo_loops, .ref aMo_open, .int Mo_steps, .int Mo_fault, .int Mo_place])), (aMo_text, .inl (cI, 300, .inl Mo_text)), (aMo_from, .inl (cI, 150, .inl Mo_from)), (aMo_to, .inl (cI, 150, .inl Mo_to))] sz) := by
  refine Met.ofW (cc := cX12_split) (maxL := 2) (ret := none) (by decide) rfl ?_
  intro p e s m args below meth c s₁ B hml hv
  obtain ⟨hargs, hsz, hP, hK, hD0⟩ := hv
  have hx := B.exec
  have hb := B.bytes
  have hr := B.returns
  have hts := atoms_spec (ws := wsX12_split) B.pre
  have hown : s.vm.findClass RX12 = some m.cls := findClass_of_methodNamed B.named
  have hlocks := B.notSynchronized
  subst hsz
  have hD := hD0.self (sz := s.heap.size)
  generalize hAe : va_A [(aMo, .inr (11, [.ref aMo_text, .int Mo_length, .ref aMo_from, .ref aMo_to, .int Mo_words, .ref aMo_stack, .int Mo_height, .ref aMo_memory, .ref aMo_out, .int Mo_outs, .ref aMo_names, .ref aMo_starts, .ref aMo_sizes, .int Mo_defined, .ref aMo_kind, .ref aMo_what, .ref aMo_running, .ref aMo_at, .int Mo_deep, .ref aMo_limits, .ref aMo_counts, .ref aMo_owner, .int Mo_loops, .ref aMo_open, .int Mo_steps, .int Mo_fault, .int Mo_place])), (aMo_text, .inl (cI, 300, .inl Mo_text)), (aMo_from, .inl (cI, 150, .inl Mo_from)), (aMo_to, .inl (cI, 150, .inl Mo_to))] s.heap.size = A at hD ⊢
  have hA : ∀ q : Nat, s.heap.size ≤ q → A q := fun q h => by rw [← hAe]; exact Or.inr h
  have hS : va_S A s.heap s.heap [] := va_S.rf
  have hl := lv_entry ([.ref aMo]) (n := 2) (Nat.le_of_ble_eq_true rfl)
  have hfr : entryFrame m args 2 = entryFrame m ([.ref aMo] : List Value).toArray 2 := by rw [hargs]
  rw [hfr, lg_entry_eq]
  generalize (lg_sl ([.ref aMo]) ++ List.replicate (2 - (lg_sl ([.ref aMo])).length) Slot.unset).toArray = ls at hl ⊢
  have hl : lv_has ls 2 [(0, .ref aMo)] := hl
  refine nameQ_ (fun Q hQ => ?_)
  have hP : va_P (dC, dI) vwCl [(aMo, .inr (11, [.ref aMo_text, .int Mo_length, .ref aMo_from, .ref aMo_to, .int Mo_words, .ref aMo_stack, .int Mo_height, .ref aMo_memory, .ref aMo_out, .int Mo_outs, .ref aMo_names, .ref aMo_starts, .ref aMo_sizes, .int Mo_defined, .ref aMo_kind, .ref aMo_what, .ref aMo_running, .ref aMo_at, .int Mo_deep, .ref aMo_limits, .ref aMo_counts, .ref aMo_owner, .int Mo_loops, .ref aMo_open, .int Mo_steps, .int Mo_fault, .int Mo_place])), (aMo_text, .inl (cI, 300, .inl Mo_text)), (aMo_from, .inl (cI, 150, .inl Mo_from)), (aMo_to, .inl (cI, 150, .inl Mo_to))] s.heap := hP
  have hj_77 : ∀ (k7 : Int32 → (Nat → Int32) → (Nat → Int32) → Int32 → Option ((Nat → Int32) × (Nat → Int32) × Int32)), (∀ (x1 : Int32) (Mo_from : Nat → Int32) (Mo_to : Nat → Int32) (Mo_words : Int32) (H : Heap) (locs : List Loc) (ls : Array Slot), k7 x1 Mo_from Mo_to Mo_words = some (w_Mo_from, w_Mo_to, w_Mo_words) → va_P (dC, dI) vwCl [(aMo, .inr (11, [.ref aMo_text, .int Mo_length, .ref aMo_from, .ref aMo_to, .int Mo_words, .ref aMo_stack, .int Mo_height, .ref aMo_memory, .ref aMo_out, .int Mo_outs, .ref aMo_names, .ref aMo_starts, .ref aMo_sizes, .int Mo_defined, .ref aMo_kind, .ref aMo_what, .ref aMo_running, .ref aMo_at, .int Mo_deep, .ref aMo_limits, .ref aMo_counts, .ref aMo_owner, .int Mo_loops, .ref aMo_open, .int Mo_steps, .int Mo_fault, .int Mo_place])), (aMo_text, .inl (cI, 300, .inl Mo_text)), (aMo_from, .inl (cI, 150, .inl Mo_from)), (aMo_to, .inl (cI, 150, .inl Mo_to))] H → va_D A [(aMo, .inr (11, [.ref aMo_text, .int Mo_length, .ref aMo_from, .ref aMo_to, .int Mo_words, .ref aMo_stack, .int Mo_height, .ref aMo_memory, .ref aMo_out, .int Mo_outs, .ref aMo_names, .ref aMo_starts, .ref aMo_sizes, .int Mo_defined, .ref aMo_kind, .ref aMo_what, .ref aMo_running, .ref aMo_at, .int Mo_deep, .ref aMo_limits, .ref aMo_counts, .ref aMo_owner, .int Mo_loops, .ref aMo_open, .int Mo_steps, .int Mo_fault, .int Mo_place])), (aMo_text, .inl (cI, 300, .inl Mo_text)), (aMo_from, .inl (cI, 150, .inl Mo_from)), (aMo_to, .inl (cI, 150, .inl Mo_to))] → va_S A s.heap H locs → lv_has ls 2 [(1, .int x1), (0, .ref aMo)] → W p l e rmX12_split s m args below meth c H locs 0 0 Q (F0 m 7 ls [])) → ∀ (x1 : Int32) (Mo_from : Nat → Int32) (Mo_to : Nat → Int32) (Mo_words : Int32) (H : Heap) (locs : List Loc) (ls : Array Slot), fnX12_split_77 Mo_text Mo_length k7 x1 Mo_from Mo_to Mo_words = some (w_Mo_from, w_Mo_to, w_Mo_words) → va_P (dC, dI) vwCl [(aMo, .inr (11, [.ref aMo_text, .int Mo_length, .ref aMo_from, .ref aMo_to, .int Mo_words, .ref aMo_stack, .int Mo_height, .ref aMo_memory, .ref aMo_out, .int Mo_outs, .ref aMo_names, .ref aMo_starts, .ref aMo_sizes, .int Mo_defined, .ref aMo_kind, .ref aMo_what, .ref aMo_running, .ref aMo_at, .int Mo_deep, .ref aMo_limits, .ref aMo_counts, .ref aMo_owner, .int Mo_loops, .ref aMo_open, .int Mo_steps, .int Mo_fault, .int Mo_place])), (aMo_text, .inl (cI, 300, .inl Mo_text)), (aMo_from, .inl (cI, 150, .inl Mo_from)), (aMo_to, .inl (cI, 150, .inl Mo_to))] H → va_D A [(aMo, .inr (11, [.ref aMo_text, .int Mo_length, .ref aMo_from, .ref aMo_to, .int Mo_words, .ref aMo_stack, .int Mo_height, .ref aMo_memory, .ref aMo_out, .int Mo_outs, .ref aMo_names, .ref aMo_starts, .ref aMo_sizes, .int Mo_defined, .ref aMo_kind, .ref aMo_what, .ref aMo_running, .ref aMo_at, .int Mo_deep, .ref aMo_limits, .ref aMo_counts, .ref aMo_owner, .int Mo_loops, .ref aMo_open, .int Mo_steps, .int Mo_fault, .int Mo_place])), (aMo_text, .inl (cI, 300, .inl Mo_text)), (aMo_from, .inl (cI, 150, .inl Mo_from)), (aMo_to, .inl (cI, 150, .inl Mo_to))] → va_S A s.heap H locs → lv_has ls 2 [(1, .int x1), (0, .ref aMo)] → W p l e rmX12_split s m args below meth c H locs 0 0 Q (F0 m 77 ls []) := by
    intro k7 hk7 x1 Mo_from Mo_to Mo_words H locs ls h hP hD hS hl
    unfold fnX12_split_77 at h
    refine lv_iinc (v := x1 + (1 : Int32)) (lv' := [(1, .int (x1 + (1 : Int32))), (0, .ref aMo)]) hx hb dX12_split_77 hl (k := 0) rfl rfl (by decide) rfl (fun ls hl => ?_)
    refine lv_goto (tgt := 7) hx hb dX12_split_80 (by decide) ?_
    exact hk7 (x1 + (1 : Int32)) Mo_from Mo_to Mo_words _ _ _ h hP hD hS (lv_sub hl [0, 1] rfl)
  have hj_63 : ∀ (k7 : Int32 → (Nat → Int32) → (Nat → Int32) → Int32 → Option ((Nat → Int32) × (Nat → Int32) × Int32)), (∀ (x1 : Int32) (Mo_from : Nat → Int32) (Mo_to : Nat → Int32) (Mo_words : Int32) (H : Heap) (locs : List Loc) (ls : Array Slot), k7 x1 Mo_from Mo_to Mo_words = some (w_Mo_from, w_Mo_to, w_Mo_words) → va_P (dC, dI) vwCl [(aMo, .inr (11, [.ref aMo_text, .int Mo_length, .ref aMo_from, .ref aMo_to, .int Mo_words, .ref aMo_stack, .int Mo_height, .ref aMo_memory, .ref aMo_out, .int Mo_outs, .ref aMo_names, .ref aMo_starts, .ref aMo_sizes, .int Mo_defined, .ref aMo_kind, .ref aMo_what, .ref aMo_running, .ref aMo_at, .int Mo_deep, .ref aMo_limits, .ref aMo_counts, .ref aMo_owner, .int Mo_loops, .ref aMo_open, .int Mo_steps, .int Mo_fault, .int Mo_place])), (aMo_text, .inl (cI, 300, .inl Mo_text)), (aMo_from, .inl (cI, 150, .inl Mo_from)), (aMo_to, .inl (cI, 150, .inl Mo_to))] H → va_D A [(aMo, .inr (11, [.ref aMo_text, .int Mo_length, .ref aMo_from, .ref aMo_to, .int Mo_words, .ref aMo_stack, .int Mo_height, .ref aMo_memory, .ref aMo_out, .int Mo_outs, .ref aMo_names, .ref aMo_starts, .ref aMo_sizes, .int Mo_defined, .ref aMo_kind, .ref aMo_what, .ref aMo_running, .ref aMo_at, .int Mo_deep, .ref aMo_limits, .ref aMo_counts, .ref aMo_owner, .int Mo_loops, .ref aMo_open, .int Mo_steps, .int Mo_fault, .int Mo_place])), (aMo_text, .inl (cI, 300, .inl Mo_text)), (aMo_from, .inl (cI, 150, .inl Mo_from)), (aMo_to, .inl (cI, 150, .inl Mo_to))] → va_S A s.heap H locs → lv_has ls 2 [(1, .int x1), (0, .ref aMo)] → W p l e rmX12_split s m args below meth c H locs 0 0 Q (F0 m 7 ls [])) → ∀ (x1 : Int32) (Mo_from : Nat → Int32) (Mo_to : Nat → Int32) (Mo_words : Int32) (H : Heap) (locs : List Loc) (ls : Array Slot), fnX12_split_63 Mo_text Mo_length k7 x1 Mo_from Mo_to Mo_words = some (w_Mo_from, w_Mo_to, w_Mo_words) → va_P (dC, dI) vwCl [(aMo, .inr (11, [.ref aMo_text, .int Mo_length, .ref aMo_from, .ref aMo_to, .int Mo_words, .ref aMo_stack, .int Mo_height, .ref aMo_memory, .ref aMo_out, .int Mo_outs, .ref aMo_names, .ref aMo_starts, .ref aMo_sizes, .int Mo_defined, .ref aMo_kind, .ref aMo_what, .ref aMo_running, .ref aMo_at, .int Mo_deep, .ref aMo_limits, .ref aMo_counts, .ref aMo_owner, .int Mo_loops, .ref aMo_open, .int Mo_steps, .int Mo_fault, .int Mo_place])), (aMo_text, .inl (cI, 300, .inl Mo_text)), (aMo_from, .inl (cI, 150, .inl Mo_from)), (aMo_to, .inl (cI, 150, .inl Mo_to))] H → va_D A [(aMo, .inr (11, [.ref aMo_text, .int Mo_length, .ref aMo_from, .ref aMo_to, .int Mo_words, .ref aMo_stack, .int Mo_height, .ref aMo_memory, .ref aMo_out, .int Mo_outs, .ref aMo_names, .ref aMo_starts, .ref aMo_sizes, .int Mo_defined, .ref aMo_kind, .ref aMo_what, .ref aMo_running, .ref aMo_at, .int Mo_deep, .ref aMo_limits, .ref aMo_counts, .ref aMo_owner, .int Mo_loops, .ref aMo_open, .int Mo_steps, .int Mo_fault, .int Mo_place])), (aMo_text, .inl (cI, 300, .inl Mo_text)), (aMo_from, .inl (cI, 150, .inl Mo_from)), (aMo_to, .inl (cI, 150, .inl Mo_to))] → va_S A s.heap H locs → lv_has ls 2 [(1, .int x1), (0, .ref aMo)] → W p l e rmX12_split s m args below meth c H locs 0 0 Q (F0 m 63 ls []) := by
    intro k7 hk7 x1 Mo_from Mo_to Mo_words H locs ls h hP hD hS hl
    unfold fnX12_split_63 at h
    refine lv_aload_n hx hb dX12_split_63 rfl (lv_at hl 1 rfl) ?_
    refine va_get (D := (dC, dI)) (ci := 11) (v := .ref aMo_to) (C := RX12) (T := TX12) (N := 27) hx hb hts (fun w h => List.mem_cons_of_mem _ (inX12 w h)) hown hK hP 0 rfl rfl 3 (by decide) (hts _ (List.mem_cons_of_mem _ mw_406)) (fun _ h9 => h9) rfl dX12_split_64 ?_
    refine lv_aload_n hx hb dX12_split_67 rfl (lv_at hl 1 rfl) ?_
    refine va_get (D := (dC, dI)) (ci := 11) (v := .int Mo_words) (C := RX12) (T := TX12) (N := 27) hx hb hts (fun w h => List.mem_cons_of_mem _ (inX12 w h)) hown hK hP 0 rfl rfl 4 (by decide) (hts _ (List.mem_cons_of_mem _ mw_407)) (fun _ h9 => h9) rfl dX12_split_68 ?_
    refine lv_iconst (v := (1 : Int32)) hx hb dX12_split_71 (by decide) ?_
    refine lv_isub hx hb dX12_split_72 ?_
    refine lv_iload_n hx hb dX12_split_73 rfl (lv_at hl 0 rfl) ?_
    refine lv_iconst (v := (1 : Int32)) hx hb dX12_split_74 (by decide) ?_
    refine lv_iadd hx hb dX12_split_75 ?_
    obtain ⟨f_1, hi_2, h⟩ := bd1_some h
    obtain ⟨hi_2, ex_3⟩ := sa_some hi_2
    refine va_iast hx hb hK hP hD hS 3 0 rfl rfl hi_2 dX12_split_76 (fun H locs hP hD hS => ?_)
    rw [← ex_3] at hP hD
    have hP : va_P (dC, dI) vwCl [(aMo, .inr (11, [.ref aMo_text, .int Mo_length, .ref aMo_from, .ref aMo_to, .int Mo_words, .ref aMo_stack, .int Mo_height, .ref aMo_memory, .ref aMo_out, .int Mo_outs, .ref aMo_names, .ref aMo_starts, .ref aMo_sizes, .int Mo_defined, .ref aMo_kind, .ref aMo_what, .ref aMo_running, .ref aMo_at, .int Mo_deep, .ref aMo_limits, .ref aMo_counts, .ref aMo_owner, .int Mo_loops, .ref aMo_open, .int Mo_steps, .int Mo_fault, .int Mo_place])), (aMo_text, .inl (cI, 300, .inl Mo_text)), (aMo_from, .inl (cI, 150, .inl Mo_from)), (aMo_to, .inl (cI, 150, .inl f_1))] H := hP
    have hD : va_D A [(aMo, .inr (11, [.ref aMo_text, .int Mo_length, .ref aMo_from, .ref aMo_to, .int Mo_words, .ref aMo_stack, .int Mo_height, .ref aMo_memory, .ref aMo_out, .int Mo_outs, .ref aMo_names, .ref aMo_starts, .ref aMo_sizes, .int Mo_defined, .ref aMo_kind, .ref aMo_what, .ref aMo_running, .ref aMo_at, .int Mo_deep, .ref aMo_limits, .ref aMo_counts, .ref aMo_owner, .int Mo_loops, .ref aMo_open, .int Mo_steps, .int Mo_fault, .int Mo_place])), (aMo_text, .inl (cI, 300, .inl Mo_text)), (aMo_from, .inl (cI, 150, .inl Mo_from)), (aMo_to, .inl (cI, 150, .inl f_1))] := hD
    exact hj_77 k7 hk7 x1 Mo_from f_1 Mo_words _ _ _ h hP hD hS (lv_sub hl [0, 1] rfl)
  have hj_43 : ∀ (k7 : Int32 → (Nat → Int32) → (Nat → Int32) → Int32 → Option ((Nat → Int32) × (Nat → Int32) × Int32)), (∀ (x1 : Int32) (Mo_from : Nat → Int32) (Mo_to : Nat → Int32) (Mo_words : Int32) (H : Heap) (locs : List Loc) (ls : Array Slot), k7 x1 Mo_from Mo_to Mo_words = some (w_Mo_from, w_Mo_to, w_Mo_words) → va_P (dC, dI) vwCl [(aMo, .inr (11, [.ref aMo_text, .int Mo_length, .ref aMo_from, .ref aMo_to, .int Mo_words, .ref aMo_stack, .int Mo_height, .ref aMo_memory, .ref aMo_out, .int Mo_outs, .ref aMo_names, .ref aMo_starts, .ref aMo_sizes, .int Mo_defined, .ref aMo_kind, .ref aMo_what, .ref aMo_running, .ref aMo_at, .int Mo_deep, .ref aMo_limits, .ref aMo_counts, .ref aMo_owner, .int Mo_loops, .ref aMo_open, .int Mo_steps, .int Mo_fault, .int Mo_place])), (aMo_text, .inl (cI, 300, .inl Mo_text)), (aMo_from, .inl (cI, 150, .inl Mo_from)), (aMo_to, .inl (cI, 150, .inl Mo_to))] H → va_D A [(aMo, .inr (11, [.ref aMo_text, .int Mo_length, .ref aMo_from, .ref aMo_to, .int Mo_words, .ref aMo_stack, .int Mo_height, .ref aMo_memory, .ref aMo_out, .int Mo_outs, .ref aMo_names, .ref aMo_starts, .ref aMo_sizes, .int Mo_defined, .ref aMo_kind, .ref aMo_what, .ref aMo_running, .ref aMo_at, .int Mo_deep, .ref aMo_limits, .ref aMo_counts, .ref aMo_owner, .int Mo_loops, .ref aMo_open, .int Mo_steps, .int Mo_fault, .int Mo_place])), (aMo_text, .inl (cI, 300, .inl Mo_text)), (aMo_from, .inl (cI, 150, .inl Mo_from)), (aMo_to, .inl (cI, 150, .inl Mo_to))] → va_S A s.heap H locs → lv_has ls 2 [(1, .int x1), (0, .ref aMo)] → W p l e rmX12_split s m args below meth c H locs 0 0 Q (F0 m 7 ls [])) → ∀ (x1 : Int32) (Mo_from : Nat → Int32) (Mo_to : Nat → Int32) (Mo_words : Int32) (H : Heap) (locs : List Loc) (ls : Array Slot), fnX12_split_43 Mo_text Mo_length k7 x1 Mo_from Mo_to Mo_words = some (w_Mo_from, w_Mo_to, w_Mo_words) → va_P (dC, dI) vwCl [(aMo, .inr (11, [.ref aMo_text, .int Mo_length, .ref aMo_from, .ref aMo_to, .int Mo_words, .ref aMo_stack, .int Mo_height, .ref aMo_memory, .ref aMo_out, .int Mo_outs, .ref aMo_names, .ref aMo_starts, .ref aMo_sizes, .int Mo_defined, .ref aMo_kind, .ref aMo_what, .ref aMo_running, .ref aMo_at, .int Mo_deep, .ref aMo_limits, .ref aMo_counts, .ref aMo_owner, .int Mo_loops, .ref aMo_open, .int Mo_steps, .int Mo_fault, .int Mo_place])), (aMo_text, .inl (cI, 300, .inl Mo_text)), (aMo_from, .inl (cI, 150, .inl Mo_from)), (aMo_to, .inl (cI, 150, .inl Mo_to))] H → va_D A [(aMo, .inr (11, [.ref aMo_text, .int Mo_length, .ref aMo_from, .ref aMo_to, .int Mo_words, .ref aMo_stack, .int Mo_height, .ref aMo_memory, .ref aMo_out, .int Mo_outs, .ref aMo_names, .ref aMo_starts, .ref aMo_sizes, .int Mo_defined, .ref aMo_kind, .ref aMo_what, .ref aMo_running, .ref aMo_at, .int Mo_deep, .ref aMo_limits, .ref aMo_counts, .ref aMo_owner, .int Mo_loops, .ref aMo_open, .int Mo_steps, .int Mo_fault, .int Mo_place])), (aMo_text, .inl (cI, 300, .inl Mo_text)), (aMo_from, .inl (cI, 150, .inl Mo_from)), (aMo_to, .inl (cI, 150, .inl Mo_to))] → va_S A s.heap H locs → lv_has ls 2 [(1, .int x1), (0, .ref aMo)] → W p l e rmX12_split s m args below meth c H locs 0 0 Q (F0 m 43 ls []) := by
    intro k7 hk7 x1 Mo_from Mo_to Mo_words H locs ls h hP hD hS hl
    unfold fnX12_split_43 at h
    refine lv_aload_n hx hb dX12_split_43 rfl (lv_at hl 1 rfl) ?_
    refine va_get (D := (dC, dI)) (ci := 11) (v := .ref aMo_from) (C := RX12) (T := TX12) (N := 27) hx hb hts (fun w h => List.mem_cons_of_mem _ (inX12 w h)) hown hK hP 0 rfl rfl 2 (by decide) (hts _ (List.mem_cons_of_mem _ mw_408)) (fun _ h9 => h9) rfl dX12_split_44 ?_
    refine lv_aload_n hx hb dX12_split_47 rfl (lv_at hl 1 rfl) ?_
    refine va_get (D := (dC, dI)) (ci := 11) (v := .int Mo_words) (C := RX12) (T := TX12) (N := 27) hx hb hts (fun w h => List.mem_cons_of_mem _ (inX12 w h)) hown hK hP 0 rfl rfl 4 (by decide) (hts _ (List.mem_cons_of_mem _ mw_407)) (fun _ h9 => h9) rfl dX12_split_48 ?_
    refine lv_iload_n hx hb dX12_split_51 rfl (lv_at hl 0 rfl) ?_
    obtain ⟨f_4, hi_5, h⟩ := bd1_some h
    obtain ⟨hi_5, ex_6⟩ := sa_some hi_5
    refine va_iast hx hb hK hP hD hS 2 0 rfl rfl hi_5 dX12_split_52 (fun H locs hP hD hS => ?_)
    rw [← ex_6] at hP hD
    have hP : va_P (dC, dI) vwCl [(aMo, .inr (11, [.ref aMo_text, .int Mo_length, .ref aMo_from, .ref aMo_to, .int Mo_words, .ref aMo_stack, .int Mo_height, .ref aMo_memory, .ref aMo_out, .int Mo_outs, .ref aMo_names, .ref aMo_starts, .ref aMo_sizes, .int Mo_defined, .ref aMo_kind, .ref aMo_what, .ref aMo_running, .ref aMo_at, .int Mo_deep, .ref aMo_limits, .ref aMo_counts, .ref aMo_owner, .int Mo_loops, .ref aMo_open, .int Mo_steps, .int Mo_fault, .int Mo_place])), (aMo_text, .inl (cI, 300, .inl Mo_text)), (aMo_from, .inl (cI, 150, .inl f_4)), (aMo_to, .inl (cI, 150, .inl Mo_to))] H := hP
    have hD : va_D A [(aMo, .inr (11, [.ref aMo_text, .int Mo_length, .ref aMo_from, .ref aMo_to, .int Mo_words, .ref aMo_stack, .int Mo_height, .ref aMo_memory, .ref aMo_out, .int Mo_outs, .ref aMo_names, .ref aMo_starts, .ref aMo_sizes, .int Mo_defined, .ref aMo_kind, .ref aMo_what, .ref aMo_running, .ref aMo_at, .int Mo_deep, .ref aMo_limits, .ref aMo_counts, .ref aMo_owner, .int Mo_loops, .ref aMo_open, .int Mo_steps, .int Mo_fault, .int Mo_place])), (aMo_text, .inl (cI, 300, .inl Mo_text)), (aMo_from, .inl (cI, 150, .inl f_4)), (aMo_to, .inl (cI, 150, .inl Mo_to))] := hD
    refine lv_aload_n hx hb dX12_split_53 rfl (lv_at hl 1 rfl) ?_
    refine lv_aload_n hx hb dX12_split_54 rfl (lv_at hl 1 rfl) ?_
    refine va_get (D := (dC, dI)) (ci := 11) (v := .int Mo_words) (C := RX12) (T := TX12) (N := 27) hx hb hts (fun w h => List.mem_cons_of_mem _ (inX12 w h)) hown hK hP 0 rfl rfl 4 (by decide) (hts _ (List.mem_cons_of_mem _ mw_407)) (fun _ h9 => h9) rfl dX12_split_55 ?_
    refine lv_iconst (v := (1 : Int32)) hx hb dX12_split_58 (by decide) ?_
    refine lv_iadd hx hb dX12_split_59 ?_
    refine va_put (D := (dC, dI)) (ci := 11) (v := .int (Mo_words + (1 : Int32))) (ty := .int) (C := RX12) (T := TX12) (N := 27) hx hb hts (fun w h => List.mem_cons_of_mem _ (inX12 w h)) tyX12 tyX12_ok nmX12 hown hK hP hD hS 0 rfl rfl 4 (by decide) (hts _ (List.mem_cons_of_mem _ mw_407)) (fun _ h9 => h9) rfl (by decide +kernel) rfl rfl (Nat.le_of_ble_eq_true rfl) dX12_split_60 (fun H locs hP hD hS => ?_)
    have hP : va_P (dC, dI) vwCl [(aMo, .inr (11, [.ref aMo_text, .int Mo_length, .ref aMo_from, .ref aMo_to, .int (Mo_words + (1 : Int32)), .ref aMo_stack, .int Mo_height, .ref aMo_memory, .ref aMo_out, .int Mo_outs, .ref aMo_names, .ref aMo_starts, .ref aMo_sizes, .int Mo_defined, .ref aMo_kind, .ref aMo_what, .ref aMo_running, .ref aMo_at, .int Mo_deep, .ref aMo_limits, .ref aMo_counts, .ref aMo_owner, .int Mo_loops, .ref aMo_open, .int Mo_steps, .int Mo_fault, .int Mo_place])), (aMo_text, .inl (cI, 300, .inl Mo_text)), (aMo_from, .inl (cI, 150, .inl f_4)), (aMo_to, .inl (cI, 150, .inl Mo_to))] H := hP
    have hD : va_D A [(aMo, .inr (11, [.ref aMo_text, .int Mo_length, .ref aMo_from, .ref aMo_to, .int (Mo_words + (1 : Int32)), .ref aMo_stack, .int Mo_height, .ref aMo_memory, .ref aMo_out, .int Mo_outs, .ref aMo_names, .ref aMo_starts, .ref aMo_sizes, .int Mo_defined, .ref aMo_kind, .ref aMo_what, .ref aMo_running, .ref aMo_at, .int Mo_deep, .ref aMo_limits, .ref aMo_counts, .ref aMo_owner, .int Mo_loops, .ref aMo_open, .int Mo_steps, .int Mo_fault, .int Mo_place])), (aMo_text, .inl (cI, 300, .inl Mo_text)), (aMo_from, .inl (cI, 150, .inl f_4)), (aMo_to, .inl (cI, 150, .inl Mo_to))] := hD
    exact hj_63 k7 hk7 x1 f_4 Mo_to (Mo_words + (1 : Int32)) _ _ _ h hP hD hS (lv_sub hl [0, 1] rfl)
  have hj_7 : ∀ (n : Nat), ∀ (x1 : Int32) (Mo_from : Nat → Int32) (Mo_to : Nat → Int32) (Mo_words : Int32) (H : Heap) (locs : List Loc) (ls : Array Slot), fnX12_split_7 Mo_text Mo_length n x1 Mo_from Mo_to Mo_words = some (w_Mo_from, w_Mo_to, w_Mo_words) → va_P (dC, dI) vwCl [(aMo, .inr (11, [.ref aMo_text, .int Mo_length, .ref aMo_from, .ref aMo_to, .int Mo_words, .ref aMo_stack, .int Mo_height, .ref aMo_memory, .ref aMo_out, .int Mo_outs, .ref aMo_names, .ref aMo_starts, .ref aMo_sizes, .int Mo_defined, .ref aMo_kind, .ref aMo_what, .ref aMo_running, .ref aMo_at, .int Mo_deep, .ref aMo_limits, .ref aMo_counts, .ref aMo_owner, .int Mo_loops, .ref aMo_open, .int Mo_steps, .int Mo_fault, .int Mo_place])), (aMo_text, .inl (cI, 300, .inl Mo_text)), (aMo_from, .inl (cI, 150, .inl Mo_from)), (aMo_to, .inl (cI, 150, .inl Mo_to))] H → va_D A [(aMo, .inr (11, [.ref aMo_text, .int Mo_length, .ref aMo_from, .ref aMo_to, .int Mo_words, .ref aMo_stack, .int Mo_height, .ref aMo_memory, .ref aMo_out, .int Mo_outs, .ref aMo_names, .ref aMo_starts, .ref aMo_sizes, .int Mo_defined, .ref aMo_kind, .ref aMo_what, .ref aMo_running, .ref aMo_at, .int Mo_deep, .ref aMo_limits, .ref aMo_counts, .ref aMo_owner, .int Mo_loops, .ref aMo_open, .int Mo_steps, .int Mo_fault, .int Mo_place])), (aMo_text, .inl (cI, 300, .inl Mo_text)), (aMo_from, .inl (cI, 150, .inl Mo_from)), (aMo_to, .inl (cI, 150, .inl Mo_to))] → va_S A s.heap H locs → lv_has ls 2 [(1, .int x1), (0, .ref aMo)] → W p l e rmX12_split s m args below meth c H locs 0 0 Q (F0 m 7 ls []) := by
    intro n
    induction n with
    | zero =>
      intro x1 Mo_from Mo_to Mo_words H locs ls h
      cases h
    | succ n ih =>
      intro x1 Mo_from Mo_to Mo_words H locs ls h hP hD hS hl
      rw [fnX12_split_7] at h
      refine lv_iload_n hx hb dX12_split_7 rfl (lv_at hl 0 rfl) ?_
      refine lv_aload_n hx hb dX12_split_8 rfl (lv_at hl 1 rfl) ?_
      refine va_get (D := (dC, dI)) (ci := 11) (v := .int Mo_length) (C := RX12) (T := TX12) (N := 27) hx hb hts (fun w h => List.mem_cons_of_mem _ (inX12 w h)) hown hK hP 0 rfl rfl 1 (by decide) (hts _ (List.mem_cons_of_mem _ mw_404)) (fun _ h9 => h9) rfl dX12_split_9 ?_
      refine lv_icmp_ge (tgt := 83) hx hb dX12_split_12 (by decide) (fun c_7 => ?_) (fun c_7 => ?_)
      · have h := it_t c_7 h
        cases h
        rw [hQ]
        exact W.vret hx hb hr (fun t ht hW => ⟨⟨(), rfl, trivial, by rw [ht]; exact hP, va_K.moved hW.alike hK, hD⟩, hS.F ht⟩) hS.2.2 dX12_split_83
      · have h := it_f c_7 h
        refine lv_aload_n hx hb dX12_split_15 rfl (lv_at hl 1 rfl) ?_
        refine va_get (D := (dC, dI)) (ci := 11) (v := .ref aMo_text) (C := RX12) (T := TX12) (N := 27) hx hb hts (fun w h => List.mem_cons_of_mem _ (inX12 w h)) hown hK hP 0 rfl rfl 0 (by decide) (hts _ (List.mem_cons_of_mem _ mw_405)) (fun _ h9 => h9) rfl dX12_split_16 ?_
        refine lv_iload_n hx hb dX12_split_19 rfl (lv_at hl 0 rfl) ?_
        obtain ⟨x_8, hi_9, h⟩ := bd1_some h
        obtain ⟨hi_9, ex_10⟩ := ga_some hi_9
        refine va_iald hx hb hK hP 1 0 rfl rfl hi_9 dX12_split_20 ?_
        rw [← ex_10]
        refine lv_bipush (v := (32 : Int32)) hx hb dX12_split_21 (by decide) ?_
        refine lv_icmp_eq (tgt := 77) hx hb dX12_split_23 (by decide) (fun c_11 => ?_) (fun c_11 => ?_)
        · have h := it_t c_11 h
          exact hj_77 ((fnX12_split_7 Mo_text Mo_length n)) ih x1 Mo_from Mo_to Mo_words _ _ _ h hP hD hS (lv_sub hl [0, 1] rfl)
        · have h := it_f c_11 h
          refine lv_iload_n hx hb dX12_split_26 rfl (lv_at hl 0 rfl) ?_
          refine lv_if_eq (tgt := 43) hx hb dX12_split_27 (by decide) (fun c_12 => ?_) (fun c_12 => ?_)
          · have h := it_t c_12 h
            exact hj_43 ((fnX12_split_7 Mo_text Mo_length n)) ih x1 Mo_from Mo_to Mo_words _ _ _ h hP hD hS (lv_sub hl [0, 1] rfl)
          · have h := it_f c_12 h
            refine lv_aload_n hx hb dX12_split_30 rfl (lv_at hl 1 rfl) ?_
            refine va_get (D := (dC, dI)) (ci := 11) (v := .ref aMo_text) (C := RX12) (T := TX12) (N := 27) hx hb hts (fun w h => List.mem_cons_of_mem _ (inX12 w h)) hown hK hP 0 rfl rfl 0 (by decide) (hts _ (List.mem_cons_of_mem _ mw_405)) (fun _ h9 => h9) rfl dX12_split_31 ?_
            refine lv_iload_n hx hb dX12_split_34 rfl (lv_at hl 0 rfl) ?_
            refine lv_iconst (v := (1 : Int32)) hx hb dX12_split_35 (by decide) ?_
            refine lv_isub hx hb dX12_split_36 ?_
            obtain ⟨x_13, hi_14, h⟩ := bd1_some h
            obtain ⟨hi_14, ex_15⟩ := ga_some hi_14
            refine va_iald hx hb hK hP 1 0 rfl rfl hi_14 dX12_split_37 ?_
            rw [← ex_15]
            refine lv_bipush (v := (32 : Int32)) hx hb dX12_split_38 (by decide) ?_
            refine lv_icmp_ne (tgt := 63) hx hb dX12_split_40 (by decide) (fun c_16 => ?_) (fun c_16 => ?_)
            · have h := it_f c_16 h
              exact hj_63 ((fnX12_split_7 Mo_text Mo_length n)) ih x1 Mo_from Mo_to Mo_words _ _ _ h hP hD hS (lv_sub hl [0, 1] rfl)
            · have h := it_t c_16 h
              exact hj_43 ((fnX12_split_7 Mo_text Mo_length n)) ih x1 Mo_from Mo_to Mo_words _ _ _ h hP hD hS (lv_sub hl [0, 1] rfl)
  unfold fnX12_split at h
  refine lv_aload_n hx hb dX12_split_0 rfl (lv_at hl 0 rfl) ?_
  refine lv_iconst (v := (0 : Int32)) hx hb dX12_split_1 (by decide) ?_
  refine va_put (D := (dC, dI)) (ci := 11) (v := .int (0 : Int32)) (ty := .int) (C := RX12) (T := TX12) (N := 27) hx hb hts (fun w h => List.mem_cons_of_mem _ (inX12 w h)) tyX12 tyX12_ok nmX12 hown hK hP hD hS 0 rfl rfl 4 (by decide) (hts _ (List.mem_cons_of_mem _ mw_407)) (fun _ h9 => h9) rfl (by decide +kernel) rfl rfl (Nat.le_of_ble_eq_true rfl) dX12_split_2 (fun H locs hP hD hS => ?_)
  have hP : va_P (dC, dI) vwCl [(aMo, .inr (11, [.ref aMo_text, .int Mo_length, .ref aMo_from, .ref aMo_to, .int (0 : Int32), .ref aMo_stack, .int Mo_height, .ref aMo_memory, .ref aMo_out, .int Mo_outs, .ref aMo_names, .ref aMo_starts, .ref aMo_sizes, .int Mo_defined, .ref aMo_kind, .ref aMo_what, .ref aMo_running, .ref aMo_at, .int Mo_deep, .ref aMo_limits, .ref aMo_counts, .ref aMo_owner, .int Mo_loops, .ref aMo_open, .int Mo_steps, .int Mo_fault, .int Mo_place])), (aMo_text, .inl (cI, 300, .inl Mo_text)), (aMo_from, .inl (cI, 150, .inl Mo_from)), (aMo_to, .inl (cI, 150, .inl Mo_to))] H := hP
  have hD : va_D A [(aMo, .inr (11, [.ref aMo_text, .int Mo_length, .ref aMo_from, .ref aMo_to, .int (0 : Int32), .ref aMo_stack, .int Mo_height, .ref aMo_memory, .ref aMo_out, .int Mo_outs, .ref aMo_names, .ref aMo_starts, .ref aMo_sizes, .int Mo_defined, .ref aMo_kind, .ref aMo_what, .ref aMo_running, .ref aMo_at, .int Mo_deep, .ref aMo_limits, .ref aMo_counts, .ref aMo_owner, .int Mo_loops, .ref aMo_open, .int Mo_steps, .int Mo_fault, .int Mo_place])), (aMo_text, .inl (cI, 300, .inl Mo_text)), (aMo_from, .inl (cI, 150, .inl Mo_from)), (aMo_to, .inl (cI, 150, .inl Mo_to))] := hD
  refine lv_iconst (v := (0 : Int32)) hx hb dX12_split_5 (by decide) ?_
  refine lv_istore_n (lv' := [(1, .int (0 : Int32)), (0, .ref aMo)]) hx hb dX12_split_6 rfl hl (by decide) rfl (fun ls hl => ?_)
  exact hj_7 fuel_ (0 : Int32) Mo_from Mo_to (0 : Int32) _ _ _ h hP hD hS (lv_sub hl [0, 1] rfl)
abbrev rmX12_digit : Room := { frames := 0, cells := 0, slots := 0, locals := 0 }
set_option maxHeartbeats 4000000 in
set_option maxRecDepth 100000 in
theorem ctX12_digit (l : Launch) (dC : Nat → ClassId) (dI : Nat → Nat → Nat) (cI cC cJ : ClassId) (sz : Nat)  (p0 : Int32) (rr : Int32)  (h : fnX12_digit  p0 = some rr) : Met l yX12_digit wsX12_digit rmX12_digit (va_Pc [.int p0] (fun U => U.heap.size = sz ∧ va_P (dC, dI) vwCl [] U.heap ∧ va_K (dC, dI) vwCl [(cI, .int), (cC, .char), (cJ, .long)] U ∧ va_D (fun _ => True) [])) (va_Qi (fun r (_ : Unit) => r = rr) (fun _ t => va_P (dC, dI) vwCl [] t.heap ∧ va_K (dC, dI) vwCl [(cI, .int), (cC, .char), (cJ, .long)] t ∧ va_D (va_A [] sz) []) (va_A [] sz)) 0 0 (va_A [] sz) := by
  refine Met.ofW (cc := cX12_digit) (maxL := 1) (ret := (some .boolean)) (by decide) rfl ?_
  intro p e s m args below meth c s₁ B hml hv
  obtain ⟨hargs, hsz, hP, hK, hD0⟩ := hv
  have hx := B.exec
  have hb := B.bytes
  have hr := B.returns
  have hts := atoms_spec (ws := wsX12_digit) B.pre
  have hown : s.vm.findClass RX12 = some m.cls := findClass_of_methodNamed B.named
  have hlocks := B.notSynchronized
  subst hsz
  have hD := hD0.self (sz := s.heap.size)
  generalize hAe : va_A [] s.heap.size = A at hD ⊢
  have hA : ∀ q : Nat, s.heap.size ≤ q → A q := fun q h => by rw [← hAe]; exact Or.inr h
  have hS : va_S A s.heap s.heap [] := va_S.rf
  have hl := lv_entry ([.int p0]) (n := 1) (Nat.le_of_ble_eq_true rfl)
  have hfr : entryFrame m args 1 = entryFrame m ([.int p0] : List Value).toArray 1 := by rw [hargs]
  rw [hfr, lg_entry_eq]
  generalize (lg_sl ([.int p0]) ++ List.replicate (1 - (lg_sl ([.int p0])).length) Slot.unset).toArray = ls at hl ⊢
  have hl : lv_has ls 1 [(0, .int p0)] := hl
  refine nameQ_ (fun Q hQ => ?_)
  unfold fnX12_digit at h
  refine lv_iload_n hx hb dX12_digit_0 rfl (lv_at hl 0 rfl) ?_
  refine lv_bipush (v := (48 : Int32)) hx hb dX12_digit_1 (by decide) ?_
  refine lv_icmp_lt (tgt := 16) hx hb dX12_digit_3 (by decide) (fun c_1 => ?_) (fun c_1 => ?_)
  · have h := it_t c_1 h
    refine lv_iconst (v := (0 : Int32)) hx hb dX12_digit_16 (by decide) ?_
    cases h
    rw [hQ]
    exact W.zret (ty := .boolean) hx hb hr rfl (fun t ht hW => ⟨⟨_, (), rfl, rfl, by rw [ht]; exact hP, va_K.moved hW.alike hK, hD⟩, hS.F ht⟩) hS.2.2 dX12_digit_17
  · have h := it_f c_1 h
    refine lv_iload_n hx hb dX12_digit_6 rfl (lv_at hl 0 rfl) ?_
    refine lv_bipush (v := (57 : Int32)) hx hb dX12_digit_7 (by decide) ?_
    refine lv_icmp_gt (tgt := 16) hx hb dX12_digit_9 (by decide) (fun c_2 => ?_) (fun c_2 => ?_)
    · have h := it_t c_2 h
      refine lv_iconst (v := (0 : Int32)) hx hb dX12_digit_16 (by decide) ?_
      cases h
      rw [hQ]
      exact W.zret (ty := .boolean) hx hb hr rfl (fun t ht hW => ⟨⟨_, (), rfl, rfl, by rw [ht]; exact hP, va_K.moved hW.alike hK, hD⟩, hS.F ht⟩) hS.2.2 dX12_digit_17
    · have h := it_f c_2 h
      refine lv_iconst (v := (1 : Int32)) hx hb dX12_digit_12 (by decide) ?_
      refine lv_goto (tgt := 17) hx hb dX12_digit_13 (by decide) ?_
      cases h
      rw [hQ]
      exact W.zret (ty := .boolean) hx hb hr rfl (fun t ht hW => ⟨⟨_, (), rfl, rfl, by rw [ht]; exact hP, va_K.moved hW.alike hK, hD⟩, hS.F ht⟩) hS.2.2 dX12_digit_17
abbrev rmX12_spelled : Room := { frames := 0, cells := 0, slots := 0, locals := 0 }
set_option maxHeartbeats 4000000 in
set_option maxRecDepth 100000 in
theorem ctX12_spelled (l : Launch) (dC : Nat → ClassId) (dI : Nat → Nat → Nat) (cI cC cJ : ClassId) (aMo aMo_text aMo_from aMo_to aMo_stack aMo_memory aMo_out aMo_names aMo_starts aMo_sizes aMo_kind aMo_what aMo_running aMo_at aMo_limits aMo_counts aMo_owner aMo_open : Nat) (sz : Nat) (Mo_text : Nat → Int32) (Mo_length : Int32) (Mo_from : Nat → Int32) (Mo_to : Nat → Int32) (Mo_words : Int32) (Mo_height : Int32) (Mo_outs : Int32) (Mo_defined : Int32) (Mo_deep : Int32) (Mo_loops : Int32) (Mo_steps : Int32) (Mo_fault : Int32) (Mo_place : Int32) (p0 : Int32) (rr : Int64)  (h : fnX12_spelled Mo_text Mo_from Mo_to p0 = some rr) : Met l yX12_spelled wsX12_spelled rmX12_spelled (va_Pc [.ref aMo, .int p0] (fun U => U.heap.size = sz ∧ va_P (dC, dI) vwCl [(aMo, .inr (11, [.ref aMo_text, .int Mo_length, .ref aMo_from, .ref aMo_to, .int Mo_words, .ref aMo_stack, .int Mo_height, .ref aMo_memory, .ref aMo_out, .int Mo_outs, .ref aMo_names, .ref aMo_starts, .ref aMo_sizes, .int Mo_defined, .ref aMo_kind, .ref aMo_what, .ref aMo_running, .ref aMo_at, .int Mo_deep, .ref aMo_limits, .ref aMo_counts, .ref aMo_owner, .int Mo_loops, .ref aMo_open, .int Mo_steps, .int Mo_fault, .int Mo_place])), (aMo_text, .inl (cI, 300, .inl Mo_text)), (aMo_from, .inl (cI, 150, .inl Mo_from)), (aMo_to, .inl (cI, 150, .inl Mo_to))] U.heap ∧ va_K (dC, dI) vwCl [(cI, .int), (cC, .char), (cJ, .long)] U ∧ va_D (fun _ => True) [(aMo, .inr (11, [.ref aMo_text, .int Mo_length, .ref aMo_from, .ref aMo_to, .int Mo_words, .ref aMo_stack, .int Mo_height, .ref aMo_memory, .ref aMo_out, .int Mo_outs, .ref aMo_names, .ref aMo_starts, .ref aMo_sizes, .int Mo_defined, .ref aMo_kind, .ref aMo_what, .ref aMo_running, .ref aMo_at, .int Mo_deep, .ref aMo_limits, .ref aMo_counts, .ref aMo_owner, .int Mo_loops, .ref aMo_open, .int Mo_steps, .int Mo_fault, .int Mo_place])), (aMo_text, .inl (cI, 300, .inl Mo_text)), (aMo_from, .inl (cI, 150, .inl Mo_from)), (aMo_to, .inl (cI, 150, .inl Mo_to))])) (va_Ql (fun r (_ : Unit) => r = rr) (fun _ t => va_P (dC, dI) vwCl [(aMo, .inr (11, [.ref aMo_text, .int Mo_length, .ref aMo_from, .ref aMo_to, .int Mo_words, .ref aMo_stack, .int Mo_height, .ref aMo_memory, .ref aMo_out, .int Mo_outs, .ref aMo_names, .ref aMo_starts, .ref aMo_sizes, .int Mo_defined, .ref aMo_kind, .ref aMo_what, .ref aMo_running, .ref aMo_at, .int Mo_deep, .ref aMo_limits, .ref aMo_counts, .ref aMo_owner, .int Mo_loops, .ref aMo_open, .int Mo_steps, .int Mo_fault, .int Mo_place])), (aMo_text, .inl (cI, 300, .inl Mo_text)), (aMo_from, .inl (cI, 150, .inl Mo_from)), (aMo_to, .inl (cI, 150, .inl Mo_to))] t.heap ∧ va_K (dC, dI) vwCl [(cI, .int), (cC, .char), (cJ, .long)] t ∧ va_D (va_A [(aMo, .inr (11, [.ref aMo_text, .int Mo_length, .ref aMo_from, .ref aMo_to, .int Mo_words, .ref aMo_stack, .int Mo_height, .ref aMo_memory, .ref aMo_out, .int Mo_outs, .ref aMo_names, .ref aMo_starts, .ref aMo_sizes, .int Mo_defined, .ref aMo_kind, .ref aMo_what, .ref aMo_running, .ref aMo_at, .int Mo_deep, .ref aMo_limits, .ref aMo_counts, .ref aMo_owner, .int Mo_loops, .ref aMo_open, .int Mo_steps, .int Mo_fault, .int Mo_place])), (aMo_text, .inl (cI, 300, .inl Mo_text)), (aMo_from, .inl (cI, 150, .inl Mo_from)), (aMo_to, .inl (cI, 150, .inl Mo_to))] sz) [(aMo, .inr (11, [.ref aMo_text, .int Mo_length, .ref aMo_from, .ref aMo_to, .int Mo_words, .ref aMo_stack, .int Mo_height, .ref aMo_memory, .ref aMo_out, .int Mo_outs, .ref aMo_names, .ref aMo_starts, .ref aMo_sizes, .int Mo_defined, .ref aMo_kind, .ref aMo_what, .ref aMo_running, .ref aMo_at, .int Mo_deep, .ref aMo_limits, .ref aMo_counts, .ref aMo_owner, .int Mo_loops, .ref aMo_open, .int Mo_steps, .int Mo_fault, .int Mo_place])), (aMo_text, .inl (cI, 300, .inl Mo_text)), (aMo_from, .inl (cI, 150, .inl Mo_from)), (aMo_to, .inl (cI, 150, .inl Mo_to))]) (va_A [(aMo, .inr (11, [.ref aMo_text, .int Mo_length, .ref aMo_from, .ref aMo_to, .int Mo_words, .ref aMo_stack, .int Mo_height, .ref aMo_memory, .ref aMo_out, .int Mo_outs, .ref aMo_names, .ref aMo_starts, .ref aMo_sizes, .int Mo_defined, .ref aMo_kind, .ref aMo_what, .ref aMo_running, .ref aMo_at, .int Mo_deep, .ref aMo_limits, .ref aMo_counts, .ref aMo_owner, .int Mo_loops, .ref aMo_open, .int Mo_steps, .int Mo_fault, .int Mo_place])), (aMo_text, .inl (cI, 300, .inl Mo_text)), (aMo_from, .inl (cI, 150, .inl Mo_from)), (aMo_to, .inl (cI, 150, .inl Mo_to))] sz)) 0 0 (va_A [(aMo, .inr (11, [.ref aMo_text, .int Mo_length, .ref aMo_from, .ref aMo_to, .int Mo_words, .ref aMo_stack, .int Mo_height, .ref aMo_memory, .ref aMo_out, .int Mo_outs, .ref aMo_names, .ref aMo_starts, .ref aMo_sizes, .int Mo_defined, .ref aMo_kind, .ref aMo_what, .ref aMo_running, .ref aMo_at, .int Mo_deep, .ref aMo_limits, .ref aMo_counts, .ref aMo_owner, .int Mo_loops, .ref aMo_open, .int Mo_steps, .int Mo_fault, .int Mo_place])), (aMo_text, .inl (cI, 300, .inl Mo_text)), (aMo_from, .inl (cI, 150, .inl Mo_from)), (aMo_to, .inl (cI, 150, .inl Mo_to))] sz) := by
  refine Met.ofW (cc := cX12_spelled) (maxL := 5) (ret := (some .long)) (by decide) rfl ?_
  intro p e s m args below meth c s₁ B hml hv
  obtain ⟨hargs, hsz, hP, hK, hD0⟩ := hv
  have hx := B.exec
  have hb := B.bytes
  have hr := B.returns
  have hts := atoms_spec (ws := wsX12_spelled) B.pre
  have hown : s.vm.findClass RX12 = some m.cls := findClass_of_methodNamed B.named
  have hlocks := B.notSynchronized
  subst hsz
  have hD := hD0.self (sz := s.heap.size)
  generalize hAe : va_A [(aMo, .inr (11, [.ref aMo_text, .int Mo_length, .ref aMo_from, .ref aMo_to, .int Mo_words, .ref aMo_stack, .int Mo_height, .ref aMo_memory, .ref aMo_out, .int Mo_outs, .ref aMo_names, .ref aMo_starts, .ref aMo_sizes, .int Mo_defined, .ref aMo_kind, .ref aMo_what, .ref aMo_running, .ref aMo_at, .int Mo_deep, .ref aMo_limits, .ref aMo_counts, .ref aMo_owner, .int Mo_loops, .ref aMo_open, .int Mo_steps, .int Mo_fault, .int Mo_place])), (aMo_text, .inl (cI, 300, .inl Mo_text)), (aMo_from, .inl (cI, 150, .inl Mo_from)), (aMo_to, .inl (cI, 150, .inl Mo_to))] s.heap.size = A at hD ⊢
  have hA : ∀ q : Nat, s.heap.size ≤ q → A q := fun q h => by rw [← hAe]; exact Or.inr h
  have hS : va_S A s.heap s.heap [] := va_S.rf
  have hl := lv_entry ([.ref aMo, .int p0]) (n := 5) (Nat.le_of_ble_eq_true rfl)
  have hfr : entryFrame m args 5 = entryFrame m ([.ref aMo, .int p0] : List Value).toArray 5 := by rw [hargs]
  rw [hfr, lg_entry_eq]
  generalize (lg_sl ([.ref aMo, .int p0]) ++ List.replicate (5 - (lg_sl ([.ref aMo, .int p0])).length) Slot.unset).toArray = ls at hl ⊢
  have hl : lv_has ls 5 [(0, .ref aMo), (1, .int p0)] := hl
  refine nameQ_ (fun Q hQ => ?_)
  have hP : va_P (dC, dI) vwCl [(aMo, .inr (11, [.ref aMo_text, .int Mo_length, .ref aMo_from, .ref aMo_to, .int Mo_words, .ref aMo_stack, .int Mo_height, .ref aMo_memory, .ref aMo_out, .int Mo_outs, .ref aMo_names, .ref aMo_starts, .ref aMo_sizes, .int Mo_defined, .ref aMo_kind, .ref aMo_what, .ref aMo_running, .ref aMo_at, .int Mo_deep, .ref aMo_limits, .ref aMo_counts, .ref aMo_owner, .int Mo_loops, .ref aMo_open, .int Mo_steps, .int Mo_fault, .int Mo_place])), (aMo_text, .inl (cI, 300, .inl Mo_text)), (aMo_from, .inl (cI, 150, .inl Mo_from)), (aMo_to, .inl (cI, 150, .inl Mo_to))] s.heap := hP
  have hj_32 : ∀ (n : Nat), ∀ (x1 : Int32) (x2 : Int64) (x4 : Int32) (H : Heap) (locs : List Loc) (ls : Array Slot), fnX12_spelled_32 Mo_text Mo_from Mo_to n x1 x2 x4 = some rr → va_P (dC, dI) vwCl [(aMo, .inr (11, [.ref aMo_text, .int Mo_length, .ref aMo_from, .ref aMo_to, .int Mo_words, .ref aMo_stack, .int Mo_height, .ref aMo_memory, .ref aMo_out, .int Mo_outs, .ref aMo_names, .ref aMo_starts, .ref aMo_sizes, .int Mo_defined, .ref aMo_kind, .ref aMo_what, .ref aMo_running, .ref aMo_at, .int Mo_deep, .ref aMo_limits, .ref aMo_counts, .ref aMo_owner, .int Mo_loops, .ref aMo_open, .int Mo_steps, .int Mo_fault, .int Mo_place])), (aMo_text, .inl (cI, 300, .inl Mo_text)), (aMo_from, .inl (cI, 150, .inl Mo_from)), (aMo_to, .inl (cI, 150, .inl Mo_to))] H → va_D A [(aMo, .inr (11, [.ref aMo_text, .int Mo_length, .ref aMo_from, .ref aMo_to, .int Mo_words, .ref aMo_stack, .int Mo_height, .ref aMo_memory, .ref aMo_out, .int Mo_outs, .ref aMo_names, .ref aMo_starts, .ref aMo_sizes, .int Mo_defined, .ref aMo_kind, .ref aMo_what, .ref aMo_running, .ref aMo_at, .int Mo_deep, .ref aMo_limits, .ref aMo_counts, .ref aMo_owner, .int Mo_loops, .ref aMo_open, .int Mo_steps, .int Mo_fault, .int Mo_place])), (aMo_text, .inl (cI, 300, .inl Mo_text)), (aMo_from, .inl (cI, 150, .inl Mo_from)), (aMo_to, .inl (cI, 150, .inl Mo_to))] → va_S A s.heap H locs → lv_has ls 5 [(1, .int x1), (2, .long x2), (4, .int x4), (0, .ref aMo)] → W p l e rmX12_spelled s m args below meth c H locs 0 0 Q (F0 m 32 ls []) := by
    intro n
    induction n with
    | zero =>
      intro x1 x2 x4 H locs ls h
      cases h
    | succ n ih =>
      intro x1 x2 x4 H locs ls h hP hD hS hl
      rw [fnX12_spelled_32] at h
      refine lv_iload hx hb dX12_spelled_32 (lv_at hl 2 rfl) ?_
      refine lv_aload_n hx hb dX12_spelled_34 rfl (lv_at hl 3 rfl) ?_
      refine va_get (D := (dC, dI)) (ci := 11) (v := .ref aMo_to) (C := RX12) (T := TX12) (N := 27) hx hb hts (fun w h => List.mem_cons_of_mem _ (inX12 w h)) hown hK hP 0 rfl rfl 3 (by decide) (hts _ (List.mem_cons_of_mem _ mw_406)) (fun _ h9 => h9) rfl dX12_spelled_35 ?_
      refine lv_iload_n hx hb dX12_spelled_38 rfl (lv_at hl 0 rfl) ?_
      obtain ⟨x_1, hi_2, h⟩ := bd1_some h
      obtain ⟨hi_2, ex_3⟩ := ga_some hi_2
      refine va_iald hx hb hK hP 3 0 rfl rfl hi_2 dX12_spelled_39 ?_
      rw [← ex_3]
      refine lv_icmp_ge (tgt := 64) hx hb dX12_spelled_40 (by decide) (fun c_4 => ?_) (fun c_4 => ?_)
      · have h := it_t c_4 h
        refine lv_lload_n hx hb dX12_spelled_64 rfl (lv_at hl 1 rfl) ?_
        cases h
        rw [hQ]
        exact W.lret hx hb hr (fun t ht hW => ⟨⟨_, (), rfl, rfl, by rw [ht]; exact hP, va_K.moved hW.alike hK, hD⟩, hS.F ht⟩) hS.2.2 dX12_spelled_65
      · have h := it_f c_4 h
        refine lv_lload_n hx hb dX12_spelled_43 rfl (lv_at hl 1 rfl) ?_
        refine lv_ldc2 (v := (128 : Int64)) hx hb hown (hts _ (List.mem_cons_of_mem _ mw_409)) dX12_spelled_44 ?_
        refine lv_lmul hx hb dX12_spelled_47 ?_
        refine lv_aload_n hx hb dX12_spelled_48 rfl (lv_at hl 3 rfl) ?_
        refine va_get (D := (dC, dI)) (ci := 11) (v := .ref aMo_text) (C := RX12) (T := TX12) (N := 27) hx hb hts (fun w h => List.mem_cons_of_mem _ (inX12 w h)) hown hK hP 0 rfl rfl 0 (by decide) (hts _ (List.mem_cons_of_mem _ mw_405)) (fun _ h9 => h9) rfl dX12_spelled_49 ?_
        refine lv_iload hx hb dX12_spelled_52 (lv_at hl 2 rfl) ?_
        obtain ⟨x_5, hi_6, h⟩ := bd1_some h
        obtain ⟨hi_6, ex_7⟩ := ga_some hi_6
        refine va_iald hx hb hK hP 1 0 rfl rfl hi_6 dX12_spelled_54 ?_
        rw [← ex_7]
        refine lv_i2l (v := x_5.toInt64) hx hb dX12_spelled_55 rfl ?_
        refine lv_ladd hx hb dX12_spelled_56 ?_
        refine lv_lstore_n (lv' := [(2, .long ((x2 * (128 : Int64)) + x_5.toInt64)), (1, .int x1), (4, .int x4), (0, .ref aMo)]) hx hb dX12_spelled_57 rfl hl (by decide) rfl (fun ls hl => ?_)
        refine lv_iinc (v := x4 + (1 : Int32)) (lv' := [(4, .int (x4 + (1 : Int32))), (2, .long ((x2 * (128 : Int64)) + x_5.toInt64)), (1, .int x1), (0, .ref aMo)]) hx hb dX12_spelled_58 hl (k := 2) rfl rfl (by decide) rfl (fun ls hl => ?_)
        refine lv_goto (tgt := 32) hx hb dX12_spelled_61 (by decide) ?_
        exact ih x1 ((x2 * (128 : Int64)) + x_5.toInt64) (x4 + (1 : Int32)) _ _ _ h hP hD hS (lv_sub hl [2, 1, 0, 3] rfl)
  unfold fnX12_spelled at h
  refine lv_aload_n hx hb dX12_spelled_0 rfl (lv_at hl 0 rfl) ?_
  refine va_get (D := (dC, dI)) (ci := 11) (v := .ref aMo_to) (C := RX12) (T := TX12) (N := 27) hx hb hts (fun w h => List.mem_cons_of_mem _ (inX12 w h)) hown hK hP 0 rfl rfl 3 (by decide) (hts _ (List.mem_cons_of_mem _ mw_406)) (fun _ h9 => h9) rfl dX12_spelled_1 ?_
  refine lv_iload_n hx hb dX12_spelled_4 rfl (lv_at hl 1 rfl) ?_
  obtain ⟨x_8, hi_9, h⟩ := bd1_some h
  obtain ⟨hi_9, ex_10⟩ := ga_some hi_9
  refine va_iald hx hb hK hP 3 0 rfl rfl hi_9 dX12_spelled_5 ?_
  rw [← ex_10]
  refine lv_aload_n hx hb dX12_spelled_6 rfl (lv_at hl 0 rfl) ?_
  refine va_get (D := (dC, dI)) (ci := 11) (v := .ref aMo_from) (C := RX12) (T := TX12) (N := 27) hx hb hts (fun w h => List.mem_cons_of_mem _ (inX12 w h)) hown hK hP 0 rfl rfl 2 (by decide) (hts _ (List.mem_cons_of_mem _ mw_408)) (fun _ h9 => h9) rfl dX12_spelled_7 ?_
  refine lv_iload_n hx hb dX12_spelled_10 rfl (lv_at hl 1 rfl) ?_
  obtain ⟨x_11, hi_12, h⟩ := bd1_some h
  obtain ⟨hi_12, ex_13⟩ := ga_some hi_12
  refine va_iald hx hb hK hP 2 0 rfl rfl hi_12 dX12_spelled_11 ?_
  rw [← ex_13]
  refine lv_isub hx hb dX12_spelled_12 ?_
  refine lv_bipush (v := (9 : Int32)) hx hb dX12_spelled_13 (by decide) ?_
  refine lv_icmp_le (tgt := 22) hx hb dX12_spelled_15 (by decide) (fun c_14 => ?_) (fun c_14 => ?_)
  · have h := it_t c_14 h
    refine lv_lconst (v := (0 : Int64)) hx hb dX12_spelled_22 (by decide) ?_
    refine lv_lstore_n (lv' := [(2, .long (0 : Int64)), (0, .ref aMo), (1, .int p0)]) hx hb dX12_spelled_23 rfl hl (by decide) rfl (fun ls hl => ?_)
    refine lv_aload_n hx hb dX12_spelled_24 rfl (lv_at hl 1 rfl) ?_
    refine va_get (D := (dC, dI)) (ci := 11) (v := .ref aMo_from) (C := RX12) (T := TX12) (N := 27) hx hb hts (fun w h => List.mem_cons_of_mem _ (inX12 w h)) hown hK hP 0 rfl rfl 2 (by decide) (hts _ (List.mem_cons_of_mem _ mw_408)) (fun _ h9 => h9) rfl dX12_spelled_25 ?_
    refine lv_iload_n hx hb dX12_spelled_28 rfl (lv_at hl 2 rfl) ?_
    obtain ⟨x_15, hi_16, h⟩ := bd1_some h
    obtain ⟨hi_16, ex_17⟩ := ga_some hi_16
    refine va_iald hx hb hK hP 2 0 rfl rfl hi_16 dX12_spelled_29 ?_
    rw [← ex_17]
    refine lv_istore (lv' := [(4, .int x_15), (2, .long (0 : Int64)), (0, .ref aMo), (1, .int p0)]) hx hb dX12_spelled_30 hl (by decide) rfl (fun ls hl => ?_)
    exact hj_32 fuel_ p0 (0 : Int64) x_15 _ _ _ h hP hD hS (lv_sub hl [3, 1, 0, 2] rfl)
  · have h := it_f c_14 h
    refine lv_ldc2 (v := (-1 : Int64)) hx hb hown (hts _ (List.mem_cons_of_mem _ mw_410)) dX12_spelled_18 ?_
    cases h
    rw [hQ]
    exact W.lret hx hb hr (fun t ht hW => ⟨⟨_, (), rfl, rfl, by rw [ht]; exact hP, va_K.moved hW.alike hK, hD⟩, hS.F ht⟩) hS.2.2 dX12_spelled_21
abbrev rmX12_isNumber : Room := { frames := 1, cells := 0, slots := 0, locals := 20 }
set_option maxHeartbeats 4000000 in
set_option maxRecDepth 100000 in
theorem ctX12_isNumber (l : Launch) (dC : Nat → ClassId) (dI : Nat → Nat → Nat) (cI cC cJ : ClassId) (aMo aMo_text aMo_from aMo_to aMo_stack aMo_memory aMo_out aMo_names aMo_starts aMo_sizes aMo_kind aMo_what aMo_running aMo_at aMo_limits aMo_counts aMo_owner aMo_open : Nat) (sz : Nat) (Mo_text : Nat → Int32) (Mo_length : Int32) (Mo_from : Nat → Int32) (Mo_to : Nat → Int32) (Mo_words : Int32) (Mo_height : Int32) (Mo_outs : Int32) (Mo_defined : Int32) (Mo_deep : Int32) (Mo_loops : Int32) (Mo_steps : Int32) (Mo_fault : Int32) (Mo_place : Int32) (p0 : Int32) (rr : Int32)  (h : fnX12_isNumber Mo_text Mo_from Mo_to p0 = some rr) : Met l yX12_isNumber wsX12_isNumber rmX12_isNumber (va_Pc [.ref aMo, .int p0] (fun U => U.heap.size = sz ∧ va_P (dC, dI) vwCl [(aMo, .inr (11, [.ref aMo_text, .int Mo_length, .ref aMo_from, .ref aMo_to, .int Mo_words, .ref aMo_stack, .int Mo_height, .ref aMo_memory, .ref aMo_out, .int Mo_outs, .ref aMo_names, .ref aMo_starts, .ref aMo_sizes, .int Mo_defined, .ref aMo_kind, .ref aMo_what, .ref aMo_running, .ref aMo_at, .int Mo_deep, .ref aMo_limits, .ref aMo_counts, .ref aMo_owner, .int Mo_loops, .ref aMo_open, .int Mo_steps, .int Mo_fault, .int Mo_place])), (aMo_text, .inl (cI, 300, .inl Mo_text)), (aMo_from, .inl (cI, 150, .inl Mo_from)), (aMo_to, .inl (cI, 150, .inl Mo_to))] U.heap ∧ va_K (dC, dI) vwCl [(cI, .int), (cC, .char), (cJ, .long)] U ∧ va_D (fun _ => True) [(aMo, .inr (11, [.ref aMo_text, .int Mo_length, .ref aMo_from, .ref aMo_to, .int Mo_words, .ref aMo_stack, .int Mo_height, .ref aMo_memory, .ref aMo_out, .int Mo_outs, .ref aMo_names, .ref aMo_starts, .ref aMo_sizes, .int Mo_defined, .ref aMo_kind, .ref aMo_what, .ref aMo_running, .ref aMo_at, .int Mo_deep, .ref aMo_limits, .ref aMo_counts, .ref aMo_owner, .int Mo_loops, .ref aMo_open, .int Mo_steps, .int Mo_fault, .int Mo_place])), (aMo_text, .inl (cI, 300, .inl Mo_text)), (aMo_from, .inl (cI, 150, .inl Mo_from)), (aMo_to, .inl (cI, 150, .inl Mo_to))])) (va_Qi (fun r (_ : Unit) => r = rr) (fun _ t => va_P (dC, dI) vwCl [(aMo, .inr (11, [.ref aMo_text, .int Mo_length, .ref aMo_from, .ref aMo_to, .int Mo_words, .ref aMo_stack, .int Mo_height, .ref aMo_memory, .ref aMo_out, .int Mo_outs, .ref aMo_names, .ref aMo_starts, .ref aMo_sizes, .int Mo_defined, .ref aMo_kind, .ref aMo_what, .ref aMo_running, .ref aMo_at, .int Mo_deep, .ref aMo_limits, .ref aMo_counts, .ref aMo_owner, .int Mo_loops, .ref aMo_open, .int Mo_steps, .int Mo_fault, .int Mo_place])), (aMo_text, .inl (cI, 300, .inl Mo_text)), (aMo_from, .inl (cI, 150, .inl Mo_from)), (aMo_to, .inl (cI, 150, .inl Mo_to))] t.heap ∧ va_K (dC, dI) vwCl [(cI, .int), (cC, .char), (cJ, .long)] t ∧ va_D (va_A [(aMo, .inr (11, [.ref aMo_text, .int Mo_length, .ref aMo_from, .ref aMo_to, .int Mo_words, .ref aMo_stack, .int Mo_height, .ref aMo_memory, .ref aMo_out, .int Mo_outs, .ref aMo_names, .ref aMo_starts, .ref aMo_sizes, .int Mo_defined, .ref aMo_kind, .ref aMo_what, .ref aMo_running, .ref aMo_at, .int Mo_deep, .ref aMo_limits, .ref aMo_counts, .ref aMo_owner, .int Mo_loops, .ref aMo_open, .int Mo_steps, .int Mo_fault, .int Mo_place])), (aMo_text, .inl (cI, 300, .inl Mo_text)), (aMo_from, .inl (cI, 150, .inl Mo_from)), (aMo_to, .inl (cI, 150, .inl Mo_to))] sz) [(aMo, .inr (11, [.ref aMo_text, .int Mo_length, .ref aMo_from, .ref aMo_to, .int Mo_words, .ref aMo_stack, .int Mo_height, .ref aMo_memory, .ref aMo_out, .int Mo_outs, .ref aMo_names, .ref aMo_starts, .ref aMo_sizes, .int Mo_defined, .ref aMo_kind, .ref aMo_what, .ref aMo_running, .ref aMo_at, .int Mo_deep, .ref aMo_limits, .ref aMo_counts, .ref aMo_owner, .int Mo_loops, .ref aMo_open, .int Mo_steps, .int Mo_fault, .int Mo_place])), (aMo_text, .inl (cI, 300, .inl Mo_text)), (aMo_from, .inl (cI, 150, .inl Mo_from)), (aMo_to, .inl (cI, 150, .inl Mo_to))]) (va_A [(aMo, .inr (11, [.ref aMo_text, .int Mo_length, .ref aMo_from, .ref aMo_to, .int Mo_words, .ref aMo_stack, .int Mo_height, .ref aMo_memory, .ref aMo_out, .int Mo_outs, .ref aMo_names, .ref aMo_starts, .ref aMo_sizes, .int Mo_defined, .ref aMo_kind, .ref aMo_what, .ref aMo_running, .ref aMo_at, .int Mo_deep, .ref aMo_limits, .ref aMo_counts, .ref aMo_owner, .int Mo_loops, .ref aMo_open, .int Mo_steps, .int Mo_fault, .int Mo_place])), (aMo_text, .inl (cI, 300, .inl Mo_text)), (aMo_from, .inl (cI, 150, .inl Mo_from)), (aMo_to, .inl (cI, 150, .inl Mo_to))] sz)) 0 0 (va_A [(aMo, .inr (11, [.ref aMo_text, .int Mo_length, .ref aMo_from, .ref aMo_to, .int Mo_words, .ref aMo_stack, .int Mo_height, .ref aMo_memory, .ref aMo_out, .int Mo_outs, .ref aMo_names, .ref aMo_starts, .ref aMo_sizes, .int Mo_defined, .ref aMo_kind, .ref aMo_what, .ref aMo_running, .ref aMo_at, .int Mo_deep, .ref aMo_limits, .ref aMo_counts, .ref aMo_owner, .int Mo_loops, .ref aMo_open, .int Mo_steps, .int Mo_fault, .int Mo_place])), (aMo_text, .inl (cI, 300, .inl Mo_text)), (aMo_from, .inl (cI, 150, .inl Mo_from)), (aMo_to, .inl (cI, 150, .inl Mo_to))] sz) := by
  refine Met.ofW (cc := cX12_isNumber) (maxL := 4) (ret := (some .boolean)) (by decide) rfl ?_
  intro p e s m args below meth c s₁ B hml hv
  obtain ⟨hargs, hsz, hP, hK, hD0⟩ := hv
  have hx := B.exec
  have hb := B.bytes
  have hr := B.returns
  have hts := atoms_spec (ws := wsX12_isNumber) B.pre
  have hown : s.vm.findClass RX12 = some m.cls := findClass_of_methodNamed B.named
  have hlocks := B.notSynchronized
  subst hsz
  have hD := hD0.self (sz := s.heap.size)
  generalize hAe : va_A [(aMo, .inr (11, [.ref aMo_text, .int Mo_length, .ref aMo_from, .ref aMo_to, .int Mo_words, .ref aMo_stack, .int Mo_height, .ref aMo_memory, .ref aMo_out, .int Mo_outs, .ref aMo_names, .ref aMo_starts, .ref aMo_sizes, .int Mo_defined, .ref aMo_kind, .ref aMo_what, .ref aMo_running, .ref aMo_at, .int Mo_deep, .ref aMo_limits, .ref aMo_counts, .ref aMo_owner, .int Mo_loops, .ref aMo_open, .int Mo_steps, .int Mo_fault, .int Mo_place])), (aMo_text, .inl (cI, 300, .inl Mo_text)), (aMo_from, .inl (cI, 150, .inl Mo_from)), (aMo_to, .inl (cI, 150, .inl Mo_to))] s.heap.size = A at hD ⊢
  have hA : ∀ q : Nat, s.heap.size ≤ q → A q := fun q h => by rw [← hAe]; exact Or.inr h
  have hS : va_S A s.heap s.heap [] := va_S.rf
  have hl := lv_entry ([.ref aMo, .int p0]) (n := 4) (Nat.le_of_ble_eq_true rfl)
  have hfr : entryFrame m args 4 = entryFrame m ([.ref aMo, .int p0] : List Value).toArray 4 := by rw [hargs]
  rw [hfr, lg_entry_eq]
  generalize (lg_sl ([.ref aMo, .int p0]) ++ List.replicate (4 - (lg_sl ([.ref aMo, .int p0])).length) Slot.unset).toArray = ls at hl ⊢
  have hl : lv_has ls 4 [(0, .ref aMo), (1, .int p0)] := hl
  refine nameQ_ (fun Q hQ => ?_)
  have hP : va_P (dC, dI) vwCl [(aMo, .inr (11, [.ref aMo_text, .int Mo_length, .ref aMo_from, .ref aMo_to, .int Mo_words, .ref aMo_stack, .int Mo_height, .ref aMo_memory, .ref aMo_out, .int Mo_outs, .ref aMo_names, .ref aMo_starts, .ref aMo_sizes, .int Mo_defined, .ref aMo_kind, .ref aMo_what, .ref aMo_running, .ref aMo_at, .int Mo_deep, .ref aMo_limits, .ref aMo_counts, .ref aMo_owner, .int Mo_loops, .ref aMo_open, .int Mo_steps, .int Mo_fault, .int Mo_place])), (aMo_text, .inl (cI, 300, .inl Mo_text)), (aMo_from, .inl (cI, 150, .inl Mo_from)), (aMo_to, .inl (cI, 150, .inl Mo_to))] s.heap := hP
  have hj_63 : ∀ (n : Nat), ∀ (x1 : Int32) (x3 : Int32) (H : Heap) (locs : List Loc) (ls : Array Slot), fnX12_isNumber_63 Mo_text Mo_from Mo_to n x1 x3 = some rr → va_P (dC, dI) vwCl [(aMo, .inr (11, [.ref aMo_text, .int Mo_length, .ref aMo_from, .ref aMo_to, .int Mo_words, .ref aMo_stack, .int Mo_height, .ref aMo_memory, .ref aMo_out, .int Mo_outs, .ref aMo_names, .ref aMo_starts, .ref aMo_sizes, .int Mo_defined, .ref aMo_kind, .ref aMo_what, .ref aMo_running, .ref aMo_at, .int Mo_deep, .ref aMo_limits, .ref aMo_counts, .ref aMo_owner, .int Mo_loops, .ref aMo_open, .int Mo_steps, .int Mo_fault, .int Mo_place])), (aMo_text, .inl (cI, 300, .inl Mo_text)), (aMo_from, .inl (cI, 150, .inl Mo_from)), (aMo_to, .inl (cI, 150, .inl Mo_to))] H → va_D A [(aMo, .inr (11, [.ref aMo_text, .int Mo_length, .ref aMo_from, .ref aMo_to, .int Mo_words, .ref aMo_stack, .int Mo_height, .ref aMo_memory, .ref aMo_out, .int Mo_outs, .ref aMo_names, .ref aMo_starts, .ref aMo_sizes, .int Mo_defined, .ref aMo_kind, .ref aMo_what, .ref aMo_running, .ref aMo_at, .int Mo_deep, .ref aMo_limits, .ref aMo_counts, .ref aMo_owner, .int Mo_loops, .ref aMo_open, .int Mo_steps, .int Mo_fault, .int Mo_place])), (aMo_text, .inl (cI, 300, .inl Mo_text)), (aMo_from, .inl (cI, 150, .inl Mo_from)), (aMo_to, .inl (cI, 150, .inl Mo_to))] → va_S A s.heap H locs → lv_has ls 4 [(1, .int x1), (3, .int x3), (0, .ref aMo)] → W p l e rmX12_isNumber s m args below meth c H locs 0 0 Q (F0 m 63 ls []) := by
    intro n
    induction n with
    | zero =>
      intro x1 x3 H locs ls h
      cases h
    | succ n ih =>
      intro x1 x3 H locs ls h hP hD hS hl
      rw [fnX12_isNumber_63] at h
      refine lv_iload_n hx hb dX12_isNumber_63 rfl (lv_at hl 1 rfl) ?_
      refine lv_aload_n hx hb dX12_isNumber_64 rfl (lv_at hl 2 rfl) ?_
      refine va_get (D := (dC, dI)) (ci := 11) (v := .ref aMo_to) (C := RX12) (T := TX12) (N := 27) hx hb hts (fun w h => List.mem_cons_of_mem _ (inX12 w h)) hown hK hP 0 rfl rfl 3 (by decide) (hts _ (List.mem_cons_of_mem _ mw_406)) (fun _ h9 => h9) rfl dX12_isNumber_65 ?_
      refine lv_iload_n hx hb dX12_isNumber_68 rfl (lv_at hl 0 rfl) ?_
      obtain ⟨x_1, hi_2, h⟩ := bd1_some h
      obtain ⟨hi_2, ex_3⟩ := ga_some hi_2
      refine va_iald hx hb hK hP 3 0 rfl rfl hi_2 dX12_isNumber_69 ?_
      rw [← ex_3]
      refine lv_icmp_ge (tgt := 93) hx hb dX12_isNumber_70 (by decide) (fun c_4 => ?_) (fun c_4 => ?_)
      · have h := it_t c_4 h
        refine lv_iconst (v := (1 : Int32)) hx hb dX12_isNumber_93 (by decide) ?_
        cases h
        rw [hQ]
        exact W.zret (ty := .boolean) hx hb hr rfl (fun t ht hW => ⟨⟨_, (), rfl, rfl, by rw [ht]; exact hP, va_K.moved hW.alike hK, hD⟩, hS.F ht⟩) hS.2.2 dX12_isNumber_94
      · have h := it_f c_4 h
        refine lv_aload_n hx hb dX12_isNumber_73 rfl (lv_at hl 2 rfl) ?_
        refine va_get (D := (dC, dI)) (ci := 11) (v := .ref aMo_text) (C := RX12) (T := TX12) (N := 27) hx hb hts (fun w h => List.mem_cons_of_mem _ (inX12 w h)) hown hK hP 0 rfl rfl 0 (by decide) (hts _ (List.mem_cons_of_mem _ mw_405)) (fun _ h9 => h9) rfl dX12_isNumber_74 ?_
        refine lv_iload_n hx hb dX12_isNumber_77 rfl (lv_at hl 1 rfl) ?_
        obtain ⟨x_5, hi_6, h⟩ := bd1_some h
        obtain ⟨hi_6, ex_7⟩ := ga_some hi_6
        refine va_iald hx hb hK hP 1 0 rfl rfl hi_6 dX12_isNumber_78 ?_
        rw [← ex_7]
        obtain ⟨r_8, hc_8, h⟩ := bd1_some h
        have hPc := hP.sub (ws' := []) [] rfl
        have hDc := hD.sub (ws' := []) [] (by decide) rfl
        have hFc := va_free (wc := []) hD hS hA [] rfl
        refine va_calli (va_runS (As := [.int x_5]) (rest := []) ⟨hx, hb, hml, hown, hts⟩ (ctX12_digit l dC dI cI cC cJ _ x_5 r_8 hc_8) (va_cwS 1 hts (gS_ hc_ mw_411 mw_412 mw_413 mw_414) rfl rfl rfl (by decide +kernel) ⟨Nat.le_of_ble_eq_true rfl, Nat.le_of_ble_eq_true rfl⟩) ⟨fun a U g mk q => by obtain ⟨q0, q1, qP, qK, qD⟩ := q; exact ⟨q0, q1, qP, va_K.moved (u := U) (U := U.calling g mk a) (Vm.Alike.refl U.vm) qK, qD⟩, fun U hU hW => ⟨rfl, by rw [hU], by rw [hU]; exact hPc, va_K.moved hW.alike hK, hDc.weaken (fun _ _ _ _ => trivial)⟩⟩ rfl rfl hl.1 rfl (lv_room (Nat.le_of_ble_eq_true rfl)) dX12_isNumber_79 ⟨Nat.zero_le _, Nat.zero_le _⟩) hS (fun q _ h => hFc q h) hFc (fun r_8 u t H1 locs ht hvm hw hB hz1 hk1 hS => ?_)
        obtain ⟨hP1, hK1, hD1⟩ := hB
        rw [ht] at hP1
        subst hw
        obtain ⟨hP, hD⟩ := va_join (wr := [(aMo, .inr (11, [.ref aMo_text, .int Mo_length, .ref aMo_from, .ref aMo_to, .int Mo_words, .ref aMo_stack, .int Mo_height, .ref aMo_memory, .ref aMo_out, .int Mo_outs, .ref aMo_names, .ref aMo_starts, .ref aMo_sizes, .int Mo_defined, .ref aMo_kind, .ref aMo_what, .ref aMo_running, .ref aMo_at, .int Mo_deep, .ref aMo_limits, .ref aMo_counts, .ref aMo_owner, .int Mo_loops, .ref aMo_open, .int Mo_steps, .int Mo_fault, .int Mo_place])), (aMo_text, .inl (cI, 300, .inl Mo_text)), (aMo_from, .inl (cI, 150, .inl Mo_from)), (aMo_to, .inl (cI, 150, .inl Mo_to))]) (w1 := []) hP hD [] [0, 1, 2, 3] rfl rfl (by decide) (by decide) hk1 hFc hP1 hD1
        generalize H1 = H at hP hS ⊢
        have hP : va_P (dC, dI) vwCl [(aMo, .inr (11, [.ref aMo_text, .int Mo_length, .ref aMo_from, .ref aMo_to, .int Mo_words, .ref aMo_stack, .int Mo_height, .ref aMo_memory, .ref aMo_out, .int Mo_outs, .ref aMo_names, .ref aMo_starts, .ref aMo_sizes, .int Mo_defined, .ref aMo_kind, .ref aMo_what, .ref aMo_running, .ref aMo_at, .int Mo_deep, .ref aMo_limits, .ref aMo_counts, .ref aMo_owner, .int Mo_loops, .ref aMo_open, .int Mo_steps, .int Mo_fault, .int Mo_place])), (aMo_text, .inl (cI, 300, .inl Mo_text)), (aMo_from, .inl (cI, 150, .inl Mo_from)), (aMo_to, .inl (cI, 150, .inl Mo_to))] H := hP
        have hD : va_D A [(aMo, .inr (11, [.ref aMo_text, .int Mo_length, .ref aMo_from, .ref aMo_to, .int Mo_words, .ref aMo_stack, .int Mo_height, .ref aMo_memory, .ref aMo_out, .int Mo_outs, .ref aMo_names, .ref aMo_starts, .ref aMo_sizes, .int Mo_defined, .ref aMo_kind, .ref aMo_what, .ref aMo_running, .ref aMo_at, .int Mo_deep, .ref aMo_limits, .ref aMo_counts, .ref aMo_owner, .int Mo_loops, .ref aMo_open, .int Mo_steps, .int Mo_fault, .int Mo_place])), (aMo_text, .inl (cI, 300, .inl Mo_text)), (aMo_from, .inl (cI, 150, .inl Mo_from)), (aMo_to, .inl (cI, 150, .inl Mo_to))] := hD
        refine lv_if_ne (tgt := 87) hx hb dX12_isNumber_82 (by decide) (fun c_9 => ?_) (fun c_9 => ?_)
        · have h := it_f c_9 h
          refine lv_iinc (v := x3 + (1 : Int32)) (lv' := [(3, .int (x3 + (1 : Int32))), (1, .int x1), (0, .ref aMo)]) hx hb dX12_isNumber_87 hl (k := 1) rfl rfl (by decide) rfl (fun ls hl => ?_)
          refine lv_goto (tgt := 63) hx hb dX12_isNumber_90 (by decide) ?_
          exact ih x1 (x3 + (1 : Int32)) _ _ _ h hP hD hS (lv_sub hl [1, 0, 2] rfl)
        · have h := it_t c_9 h
          refine lv_iconst (v := (0 : Int32)) hx hb dX12_isNumber_85 (by decide) ?_
          cases h
          rw [hQ]
          exact W.zret (ty := .boolean) hx hb hr rfl (fun t ht hW => ⟨⟨_, (), rfl, rfl, by rw [ht]; exact hP, va_K.moved hW.alike hK, hD⟩, hS.F ht⟩) hS.2.2 dX12_isNumber_86
  have hj_33 : ∀ (x1 : Int32) (z0 : Int32) (H : Heap) (locs : List Loc) (ls : Array Slot), fnX12_isNumber_33 Mo_text Mo_from Mo_to x1 z0 = some rr → va_P (dC, dI) vwCl [(aMo, .inr (11, [.ref aMo_text, .int Mo_length, .ref aMo_from, .ref aMo_to, .int Mo_words, .ref aMo_stack, .int Mo_height, .ref aMo_memory, .ref aMo_out, .int Mo_outs, .ref aMo_names, .ref aMo_starts, .ref aMo_sizes, .int Mo_defined, .ref aMo_kind, .ref aMo_what, .ref aMo_running, .ref aMo_at, .int Mo_deep, .ref aMo_limits, .ref aMo_counts, .ref aMo_owner, .int Mo_loops, .ref aMo_open, .int Mo_steps, .int Mo_fault, .int Mo_place])), (aMo_text, .inl (cI, 300, .inl Mo_text)), (aMo_from, .inl (cI, 150, .inl Mo_from)), (aMo_to, .inl (cI, 150, .inl Mo_to))] H → va_D A [(aMo, .inr (11, [.ref aMo_text, .int Mo_length, .ref aMo_from, .ref aMo_to, .int Mo_words, .ref aMo_stack, .int Mo_height, .ref aMo_memory, .ref aMo_out, .int Mo_outs, .ref aMo_names, .ref aMo_starts, .ref aMo_sizes, .int Mo_defined, .ref aMo_kind, .ref aMo_what, .ref aMo_running, .ref aMo_at, .int Mo_deep, .ref aMo_limits, .ref aMo_counts, .ref aMo_owner, .int Mo_loops, .ref aMo_open, .int Mo_steps, .int Mo_fault, .int Mo_place])), (aMo_text, .inl (cI, 300, .inl Mo_text)), (aMo_from, .inl (cI, 150, .inl Mo_from)), (aMo_to, .inl (cI, 150, .inl Mo_to))] → va_S A s.heap H locs → lv_has ls 4 [(1, .int x1), (0, .ref aMo)] → W p l e rmX12_isNumber s m args below meth c H locs 0 0 Q (F0 m 33 ls [.int z0]) := by
    intro x1 z0 H locs ls h hP hD hS hl
    unfold fnX12_isNumber_33 at h
    refine lv_istore_n (lv' := [(2, .int z0), (1, .int x1), (0, .ref aMo)]) hx hb dX12_isNumber_33 rfl hl (by decide) rfl (fun ls hl => ?_)
    refine lv_aload_n hx hb dX12_isNumber_34 rfl (lv_at hl 2 rfl) ?_
    refine va_get (D := (dC, dI)) (ci := 11) (v := .ref aMo_to) (C := RX12) (T := TX12) (N := 27) hx hb hts (fun w h => List.mem_cons_of_mem _ (inX12 w h)) hown hK hP 0 rfl rfl 3 (by decide) (hts _ (List.mem_cons_of_mem _ mw_406)) (fun _ h9 => h9) rfl dX12_isNumber_35 ?_
    refine lv_iload_n hx hb dX12_isNumber_38 rfl (lv_at hl 1 rfl) ?_
    obtain ⟨x_10, hi_11, h⟩ := bd1_some h
    obtain ⟨hi_11, ex_12⟩ := ga_some hi_11
    refine va_iald hx hb hK hP 3 0 rfl rfl hi_11 dX12_isNumber_39 ?_
    rw [← ex_12]
    refine lv_iload_n hx hb dX12_isNumber_40 rfl (lv_at hl 0 rfl) ?_
    refine lv_isub hx hb dX12_isNumber_41 ?_
    refine lv_iconst (v := (1 : Int32)) hx hb dX12_isNumber_42 (by decide) ?_
    refine lv_icmp_lt (tgt := 59) hx hb dX12_isNumber_43 (by decide) (fun c_13 => ?_) (fun c_13 => ?_)
    · have h := it_t c_13 h
      refine lv_iconst (v := (0 : Int32)) hx hb dX12_isNumber_59 (by decide) ?_
      cases h
      rw [hQ]
      exact W.zret (ty := .boolean) hx hb hr rfl (fun t ht hW => ⟨⟨_, (), rfl, rfl, by rw [ht]; exact hP, va_K.moved hW.alike hK, hD⟩, hS.F ht⟩) hS.2.2 dX12_isNumber_60
    · have h := it_f c_13 h
      refine lv_aload_n hx hb dX12_isNumber_46 rfl (lv_at hl 2 rfl) ?_
      refine va_get (D := (dC, dI)) (ci := 11) (v := .ref aMo_to) (C := RX12) (T := TX12) (N := 27) hx hb hts (fun w h => List.mem_cons_of_mem _ (inX12 w h)) hown hK hP 0 rfl rfl 3 (by decide) (hts _ (List.mem_cons_of_mem _ mw_406)) (fun _ h9 => h9) rfl dX12_isNumber_47 ?_
      refine lv_iload_n hx hb dX12_isNumber_50 rfl (lv_at hl 1 rfl) ?_
      obtain ⟨x_14, hi_15, h⟩ := bd1_some h
      obtain ⟨hi_15, ex_16⟩ := ga_some hi_15
      refine va_iald hx hb hK hP 3 0 rfl rfl hi_15 dX12_isNumber_51 ?_
      rw [← ex_16]
      refine lv_iload_n hx hb dX12_isNumber_52 rfl (lv_at hl 0 rfl) ?_
      refine lv_isub hx hb dX12_isNumber_53 ?_
      refine lv_bipush (v := (9 : Int32)) hx hb dX12_isNumber_54 (by decide) ?_
      refine lv_icmp_le (tgt := 61) hx hb dX12_isNumber_56 (by decide) (fun c_17 => ?_) (fun c_17 => ?_)
      · have h := it_t c_17 h
        refine lv_iload_n hx hb dX12_isNumber_61 rfl (lv_at hl 0 rfl) ?_
        refine lv_istore_n (lv' := [(3, .int z0), (2, .int z0), (1, .int x1), (0, .ref aMo)]) hx hb dX12_isNumber_62 rfl hl (by decide) rfl (fun ls hl => ?_)
        exact hj_63 fuel_ x1 z0 _ _ _ h hP hD hS (lv_sub hl [2, 0, 3] rfl)
      · have h := it_f c_17 h
        refine lv_iconst (v := (0 : Int32)) hx hb dX12_isNumber_59 (by decide) ?_
        cases h
        rw [hQ]
        exact W.zret (ty := .boolean) hx hb hr rfl (fun t ht hW => ⟨⟨_, (), rfl, rfl, by rw [ht]; exact hP, va_K.moved hW.alike hK, hD⟩, hS.F ht⟩) hS.2.2 dX12_isNumber_60
  unfold fnX12_isNumber at h
  refine lv_aload_n hx hb dX12_isNumber_0 rfl (lv_at hl 0 rfl) ?_
  refine va_get (D := (dC, dI)) (ci := 11) (v := .ref aMo_text) (C := RX12) (T := TX12) (N := 27) hx hb hts (fun w h => List.mem_cons_of_mem _ (inX12 w h)) hown hK hP 0 rfl rfl 0 (by decide) (hts _ (List.mem_cons_of_mem _ mw_405)) (fun _ h9 => h9) rfl dX12_isNumber_1 ?_
  refine lv_aload_n hx hb dX12_isNumber_4 rfl (lv_at hl 0 rfl) ?_
  refine va_get (D := (dC, dI)) (ci := 11) (v := .ref aMo_from) (C := RX12) (T := TX12) (N := 27) hx hb hts (fun w h => List.mem_cons_of_mem _ (inX12 w h)) hown hK hP 0 rfl rfl 2 (by decide) (hts _ (List.mem_cons_of_mem _ mw_408)) (fun _ h9 => h9) rfl dX12_isNumber_5 ?_
  refine lv_iload_n hx hb dX12_isNumber_8 rfl (lv_at hl 1 rfl) ?_
  obtain ⟨x_18, hi_19, h⟩ := bd1_some h
  obtain ⟨hi_19, ex_20⟩ := ga_some hi_19
  refine va_iald hx hb hK hP 2 0 rfl rfl hi_19 dX12_isNumber_9 ?_
  rw [← ex_20]
  obtain ⟨x_21, hi_22, h⟩ := bd1_some h
  obtain ⟨hi_22, ex_23⟩ := ga_some hi_22
  refine va_iald hx hb hK hP 1 0 rfl rfl hi_22 dX12_isNumber_10 ?_
  rw [← ex_23]
  refine lv_bipush (v := (45 : Int32)) hx hb dX12_isNumber_11 (by decide) ?_
  refine lv_icmp_ne (tgt := 27) hx hb dX12_isNumber_13 (by decide) (fun c_24 => ?_) (fun c_24 => ?_)
  · have h := it_f c_24 h
    refine lv_aload_n hx hb dX12_isNumber_27 rfl (lv_at hl 0 rfl) ?_
    refine va_get (D := (dC, dI)) (ci := 11) (v := .ref aMo_from) (C := RX12) (T := TX12) (N := 27) hx hb hts (fun w h => List.mem_cons_of_mem _ (inX12 w h)) hown hK hP 0 rfl rfl 2 (by decide) (hts _ (List.mem_cons_of_mem _ mw_408)) (fun _ h9 => h9) rfl dX12_isNumber_28 ?_
    refine lv_iload_n hx hb dX12_isNumber_31 rfl (lv_at hl 1 rfl) ?_
    obtain ⟨x_25, hi_26, h⟩ := bd1_some h
    obtain ⟨hi_26, ex_27⟩ := ga_some hi_26
    refine va_iald hx hb hK hP 2 0 rfl rfl hi_26 dX12_isNumber_32 ?_
    rw [← ex_27]
    exact hj_33 p0 x_25 _ _ _ h hP hD hS (lv_sub hl [1, 0] rfl)
  · have h := it_t c_24 h
    refine lv_aload_n hx hb dX12_isNumber_16 rfl (lv_at hl 0 rfl) ?_
    refine va_get (D := (dC, dI)) (ci := 11) (v := .ref aMo_from) (C := RX12) (T := TX12) (N := 27) hx hb hts (fun w h => List.mem_cons_of_mem _ (inX12 w h)) hown hK hP 0 rfl rfl 2 (by decide) (hts _ (List.mem_cons_of_mem _ mw_408)) (fun _ h9 => h9) rfl dX12_isNumber_17 ?_
    refine lv_iload_n hx hb dX12_isNumber_20 rfl (lv_at hl 1 rfl) ?_
    obtain ⟨x_28, hi_29, h⟩ := bd1_some h
    obtain ⟨hi_29, ex_30⟩ := ga_some hi_29
    refine va_iald hx hb hK hP 2 0 rfl rfl hi_29 dX12_isNumber_21 ?_
    rw [← ex_30]
    refine lv_iconst (v := (1 : Int32)) hx hb dX12_isNumber_22 (by decide) ?_
    refine lv_iadd hx hb dX12_isNumber_23 ?_
    refine lv_goto (tgt := 33) hx hb dX12_isNumber_24 (by decide) ?_
    exact hj_33 p0 (x_28 + (1 : Int32)) _ _ _ h hP hD hS (lv_sub hl [1, 0] rfl)
