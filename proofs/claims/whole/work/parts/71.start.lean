/-! the start of the law: classes, tables, strings; the two objects; the loop -/
theorem mx_1 : (.classLink RL 7 RX11 : Cond) ∈ lw_gt := List.mem_filter.mpr ⟨(List.mem_append_right _ (List.mem_append_left _ (List.mem_of_getElem? (l := tables_1_1) (i := 19) rfl))), rfl⟩
theorem mx_2 : (.instantiable RX11 6 : Cond) ∈ lw_gt := List.mem_filter.mpr ⟨(List.mem_append_right _ (List.mem_append_left _ (List.mem_of_getElem? (l := tables_1_1) (i := 20) rfl))), rfl⟩
theorem mx_3 : (.initialized RX11 : Cond) ∈ lw_gt := List.mem_filter.mpr ⟨(List.mem_append_right _ (List.mem_append_left _ (List.mem_of_getElem? (l := tables_1_1) (i := 1) rfl))), rfl⟩
theorem mx_4 : (.code yX11_init cX11_init 1 none : Cond) ∈ lw_gt := List.mem_filter.mpr ⟨(List.mem_append_right _ (List.mem_append_left _ (List.mem_of_getElem? (l := tables_1_1) (i := 23) rfl))), rfl⟩
theorem mx_5 : (.methodLink RL 9 yX11_init : Cond) ∈ lw_gt := List.mem_filter.mpr ⟨(List.mem_append_right _ (List.mem_append_left _ (List.mem_of_getElem? (l := tables_1_1) (i := 21) rfl))), rfl⟩
theorem mx_6 : (.instanceMethod yX11_init : Cond) ∈ lw_gt := List.mem_filter.mpr ⟨(List.mem_append_right _ (List.mem_append_left _ (List.mem_of_getElem? (l := tables_1_1) (i := 22) rfl))), rfl⟩
theorem my_1 : (.classLink RL 10 RX12 : Cond) ∈ lw_gt := List.mem_filter.mpr ⟨(List.mem_append_right _ (List.mem_append_right _ (List.mem_append_right _ (List.mem_append_left _ (List.mem_of_getElem? (l := tables_1_3) (i := 230) rfl))))), rfl⟩
theorem my_2 : (.instantiable RX12 27 : Cond) ∈ lw_gt := List.mem_filter.mpr ⟨(List.mem_append_right _ (List.mem_append_right _ (List.mem_append_right _ (List.mem_append_left _ (List.mem_of_getElem? (l := tables_1_3) (i := 231) rfl))))), rfl⟩
theorem my_3 : (.initialized RX12 : Cond) ∈ lw_gt := List.mem_filter.mpr ⟨(List.mem_append_right _ (List.mem_append_left _ (List.mem_of_getElem? (l := tables_1_1) (i := 16) rfl))), rfl⟩
theorem my_4 : (.code yX12_init cX12_init 1 none : Cond) ∈ lw_gt := List.mem_filter.mpr ⟨(List.mem_append_right _ (List.mem_append_right _ (List.mem_append_right _ (List.mem_append_left _ (List.mem_of_getElem? (l := tables_1_3) (i := 234) rfl))))), rfl⟩
theorem my_5 : (.methodLink RL 12 yX12_init : Cond) ∈ lw_gt := List.mem_filter.mpr ⟨(List.mem_append_right _ (List.mem_append_right _ (List.mem_append_right _ (List.mem_append_left _ (List.mem_of_getElem? (l := tables_1_3) (i := 232) rfl))))), rfl⟩
theorem my_6 : (.instanceMethod yX12_init : Cond) ∈ lw_gt := List.mem_filter.mpr ⟨(List.mem_append_right _ (List.mem_append_right _ (List.mem_append_right _ (List.mem_append_left _ (List.mem_of_getElem? (l := tables_1_3) (i := 233) rfl))))), rfl⟩
theorem st_K {s : State} {args : Array Value} (hts : ∀ w ∈ lw_tbl, w.before args s = true) : ∃ (dC : Nat → ClassId) (dI : Nat → Nat → Nat) (cI cC cJ : ClassId), va_K (dC, dI) vwCl [(cI, .int), (cC, .char), (cJ, .long)] s := by
  have htg : ∀ w ∈ lw_gt, w.before args s = true := fun w h => hts w (List.mem_filter.mp h).1
  obtain ⟨c0, iS0, hKn0⟩ := u_known (C := RX0) (T := TX0) (N := 2) (n := 2) htg inX0 (hts (.instantiable RX0 2) (List.mem_append_right _ (List.mem_append_left _ (List.mem_of_getElem? (l := tables_1_1) (i := 84) rfl))))
  obtain ⟨c1, iS1, hKn1⟩ := u_known (C := RX1) (T := TX1) (N := 6) (n := 6) htg inX1 (hts (.instantiable RX1 6) (List.mem_append_right _ (List.mem_append_left _ (List.mem_of_getElem? (l := tables_1_1) (i := 78) rfl))))
  obtain ⟨c2, iS2, hKn2⟩ := u_known (C := RX2) (T := TX2) (N := 4) (n := 4) htg inX2 (hts (.instantiable RX2 4) (List.mem_append_right _ (List.mem_append_left _ (List.mem_of_getElem? (l := tables_1_1) (i := 98) rfl))))
  obtain ⟨c3, iS3, hKn3⟩ := u_known (C := RX3) (T := TX3) (N := 5) (n := 5) htg inX3 (hts (.instantiable RX3 5) (List.mem_append_right _ (List.mem_append_left _ (List.mem_of_getElem? (l := tables_1_1) (i := 199) rfl))))
  obtain ⟨c4, iS4, hKn4⟩ := u_known (C := RX4) (T := TX4) (N := 3) (n := 3) htg inX4 (hts (.instantiable RX4 3) (List.mem_append_right _ (List.mem_append_left _ (List.mem_of_getElem? (l := tables_1_1) (i := 146) rfl))))
  obtain ⟨c5, iS5, hKn5⟩ := u_known (C := RX5) (T := TX5) (N := 12) (n := 12) htg inX5 (hts (.instantiable RX5 12) (List.mem_append_right _ (List.mem_append_left _ (List.mem_of_getElem? (l := tables_1_1) (i := 136) rfl))))
  obtain ⟨c6, iS6, hKn6⟩ := u_known (C := RX7) (T := TX7) (N := 2) (n := 2) htg inX7 (hts (.instantiable RX7 2) (List.mem_append_right _ (List.mem_append_left _ (List.mem_of_getElem? (l := tables_1_1) (i := 51) rfl))))
  obtain ⟨c7, iS7, hKn7⟩ := u_known (C := RX8) (T := TX8) (N := 2) (n := 2) htg inX8 (hts (.instantiable RX8 2) (List.mem_append_right _ (List.mem_append_left _ (List.mem_of_getElem? (l := tables_1_1) (i := 65) rfl))))
  obtain ⟨c8, iS8, hKn8⟩ := u_known (C := RX9) (T := TX9) (N := 5) (n := 5) htg inX9 (hts (.instantiable RX9 5) (List.mem_append_right _ (List.mem_append_left _ (List.mem_of_getElem? (l := tables_1_1) (i := 28) rfl))))
  obtain ⟨c9, iS9, hKn9⟩ := u_known (C := RX10) (T := TX10) (N := 1) (n := 1) htg inX10 (hts (.instantiable RX10 1) (List.mem_append_right _ (List.mem_append_left _ (List.mem_of_getElem? (l := tables_1_1) (i := 205) rfl))))
  obtain ⟨c10, iS10, hKn10⟩ := u_known (C := RX11) (T := TX11) (N := 6) (n := 6) htg inX11 (hts (.instantiable RX11 6) (List.mem_append_right _ (List.mem_append_left _ (List.mem_of_getElem? (l := tables_1_1) (i := 20) rfl))))
  obtain ⟨c11, iS11, hKn11⟩ := u_known (C := RX12) (T := TX12) (N := 27) (n := 27) htg inX12 (hts (.instantiable RX12 27) (List.mem_append_right _ (List.mem_append_right _ (List.mem_append_right _ (List.mem_append_left _ (List.mem_of_getElem? (l := tables_1_3) (i := 231) rfl))))))
  obtain ⟨c_int, k_int, m_int, a1_int, a2_int, a3_int⟩ := Cond.arrayClass_spec (hts (.arrayClass .int) (List.mem_append_right _ (List.mem_append_left _ (List.mem_of_getElem? (l := tables_1_1) (i := 63) rfl))))
  obtain ⟨c_char, k_char, m_char, a1_char, a2_char, a3_char⟩ := Cond.arrayClass_spec (hts (.arrayClass .char) (List.mem_append_right _ (List.mem_append_left _ (List.mem_of_getElem? (l := tables_1_1) (i := 49) rfl))))
  obtain ⟨c_long, k_long, m_long, a1_long, a2_long, a3_long⟩ := Cond.arrayClass_spec (hts (.arrayClass .long) (List.mem_append_right _ (List.mem_append_left _ (List.mem_of_getElem? (l := tables_1_1) (i := 96) rfl))))
  refine ⟨fun k => ([c0, c1, c2, c3, c4, c5, c6, c7, c8, c9, c10, c11] : List ClassId).getD k c0, fun k => ([iS0, iS1, iS2, iS3, iS4, iS5, iS6, iS7, iS8, iS9, iS10, iS11] : List (Nat → Nat)).getD k iS0, c_int, c_char, c_long, ?_, ?_⟩
  · intro k q hq
    match k, hq with
    | 0, hq => cases hq; exact hKn0
    | 1, hq => cases hq; exact hKn1
    | 2, hq => cases hq; exact hKn2
    | 3, hq => cases hq; exact hKn3
    | 4, hq => cases hq; exact hKn4
    | 5, hq => cases hq; exact hKn5
    | 6, hq => cases hq; exact hKn6
    | 7, hq => cases hq; exact hKn7
    | 8, hq => cases hq; exact hKn8
    | 9, hq => cases hq; exact hKn9
    | 10, hq => cases hq; exact hKn10
    | 11, hq => cases hq; exact hKn11
    | k + 12, hq => simp [vwCl] at hq
  · intro k q hq
    match k, hq with
    | 0, hq => cases hq; exact ⟨fun N z => ⟨(fun k h => by cases h), k_int, a2_int, m_int, a3_int⟩, a1_int⟩
    | 1, hq => cases hq; exact ⟨fun N z => ⟨(fun k h => by cases h), k_char, a2_char, m_char, a3_char⟩, a1_char⟩
    | 2, hq => cases hq; exact ⟨fun N z => ⟨(fun k h => by cases h), k_long, a2_long, m_long, a3_long⟩, a1_long⟩
    | k + 3, hq => simp at hq
theorem nB_in : ∀ i, i < 6 → ∀ c ∈ nB i, c ∈ nL := by
  intro i hi c hc
  unfold nL
  rcases (show i = 0 ∨ i = 1 ∨ i = 2 ∨ i = 3 ∨ i = 4 ∨ i = 5 by omega) with rfl | rfl | rfl | rfl | rfl | rfl
  · exact List.mem_append_right _ (List.mem_append_right _ (List.mem_append_right _ (List.mem_append_left _ hc)))
  · exact List.mem_append_right _ (List.mem_append_right _ (List.mem_append_right _ (List.mem_append_right _ (List.mem_append_left _ hc))))
  · exact List.mem_append_right _ (List.mem_append_right _ (List.mem_append_right _ (List.mem_append_right _ (List.mem_append_right _ (List.mem_append_left _ hc)))))
  · exact List.mem_append_right _ (List.mem_append_right _ (List.mem_append_right _ (List.mem_append_right _ (List.mem_append_right _ (List.mem_append_right _ (List.mem_append_left _ hc))))))
  · exact List.mem_append_right _ (List.mem_append_right _ (List.mem_append_right _ (List.mem_append_right _ (List.mem_append_right _ (List.mem_append_right _ (List.mem_append_right _ (List.mem_append_left _ hc)))))))
  · exact List.mem_append_right _ (List.mem_append_right _ (List.mem_append_right _ (List.mem_append_right _ (List.mem_append_right _ (List.mem_append_right _ (List.mem_append_right _ (List.mem_append_right _ (List.mem_append_left _ hc))))))))
theorem st_T {s : State} {args : Array Value} {A : Nat → Prop} {n : String} {f : Nat → Int32} (h : ∀ c ∈ nTab n f, c.before args s = true) (hl : (Cond.laysStatic "WordForge$Op" n "[I").before args s = true) (hi : (Cond.initialized "WordForge$Op").before args s = true) (hA : ∀ a : Nat, a < s.heap.size → ¬ A a) : ∃ t : Nat, va_Z "WordForge$Op" n "[I" (.ref t) A s s.heap ∧ va_T .int t 53 (fun j => .int (f j)) A s s.heap := by
  have e1 : (Cond.arrayOf (nT n) .int).before args s = true := h _ (List.mem_append_left _ (List.mem_of_getElem? (i := 1) rfl))
  have e2 : (Cond.eq (.length (nT n)) (.int 53)).before args s = true := h _ (List.mem_append_left _ (List.mem_of_getElem? (i := 2) rfl))
  obtain ⟨t, ht, hT⟩ := va_Tof (tm := nT n) (N := 53) (f := fun j => .int (f j)) (A := A) (by decide) e1 (va_eqt e2) (fun j hj => va_eqt (h _ (List.mem_append_right _ (List.mem_map.mpr ⟨j, List.mem_range.mpr hj, rfl⟩)))) hA
  exact ⟨t, va_Zof hl hi ht hA, hT⟩
theorem st_S {s : State} {args : Array Value} {A : Nat → Prop} (h : ∀ c ∈ nL, c.before args s = true) (hA : ∀ a : Nat, a < s.heap.size → ¬ A a) : ∃ adK adV : Nat → Nat, vk_S 6 lenS bytS adK adV A s s.heap ∧ ∀ i : Nat, i < 6 → (nS i).eval args s none [] s = some (.ref (adK i)) := by
  have hb : ∀ i, i < 6 → ∀ c ∈ nStr i, c.before args s = true := fun i hi c hc => h c (nB_in i hi c (List.mem_append_left _ hc))
  refine vk_Sof (tm := nS) (fun i hi => Nat.lt_of_lt_of_le (lenS_ok i hi).2 (by decide)) (fun i hi => hb i hi _ (List.mem_append_left _ (List.mem_of_getElem? (i := 0) rfl))) (fun i hi => hb i hi _ (List.mem_append_left _ (List.mem_of_getElem? (i := 1) rfl))) (fun i hi => hb i hi _ (List.mem_append_left _ (List.mem_of_getElem? (i := 2) rfl))) (fun i hi => hb i hi _ (List.mem_append_left _ (List.mem_of_getElem? (i := 3) rfl))) (fun i hi j hj => hb i hi _ (List.mem_append_right _ (List.mem_map.mpr ⟨j, List.mem_range.mpr hj, rfl⟩))) (fun i j hi hj hij => ?_) hA
  rcases Nat.lt_or_ge i j with y | y
  · exact Or.inl (h _ (nB_in j hj _ (List.mem_append_right _ (List.mem_map.mpr ⟨i, List.mem_range.mpr y, rfl⟩))))
  · exact Or.inr (h _ (nB_in i hi _ (List.mem_append_right _ (List.mem_map.mpr ⟨j, List.mem_range.mpr (by omega), rfl⟩))))
theorem st_R {s : State} {args : Array Value} {adK : Nat → Nat} (hts : ∀ w ∈ lw_tbl, w.before args s = true) (h : ∀ i : Nat, i < 6 → (nS i).eval args s none [] s = some (.ref (adK i))) : SR adK s :=
  ⟨vk_R.of (hts (.stringRef RX10 15 "dup drop swap over rot nip tuck ?dup depth") (List.mem_append_right _ (List.mem_append_left _ (List.mem_of_getElem? (l := tables_1_1) (i := 210) rfl)))) (h 0 (by decide)), vk_R.of (hts (.stringRef RX10 21 "+ - * / mod min max and or xor lshift rshift = < >") (List.mem_append_right _ (List.mem_append_right _ (List.mem_append_left _ (List.mem_of_getElem? (l := tables_1_2) (i := 24) rfl))))) (h 1 (by decide)), vk_R.of (hts (.stringRef RX10 23 "negate abs invert 0= 0<") (List.mem_append_right _ (List.mem_append_right _ (List.mem_append_left _ (List.mem_of_getElem? (l := tables_1_2) (i := 25) rfl))))) (h 2 (by decide)), vk_R.of (hts (.stringRef RX10 25 "@ ! +! .") (List.mem_append_right _ (List.mem_append_right _ (List.mem_append_left _ (List.mem_of_getElem? (l := tables_1_2) (i := 26) rfl))))) (h 3 (by decide)), vk_R.of (hts (.stringRef RX10 27 "if else then begin until again while repeat do loop i exit recurse") (List.mem_append_right _ (List.mem_append_right _ (List.mem_append_left _ (List.mem_of_getElem? (l := tables_1_2) (i := 27) rfl))))) (h 4 (by decide)), vk_R.of (hts (.stringRef RX10 29 ": ; forget") (List.mem_append_right _ (List.mem_append_right _ (List.mem_append_left _ (List.mem_of_getElem? (l := tables_1_2) (i := 28) rfl))))) (h 5 (by decide))⟩
theorem st_DI : DI (fun _ => 0) (fun _ => 0) (fun _ => 0) (fun _ => 0) (fun _ => 0) (fun _ => 0) (fun _ => 0) (fun _ => 0) (fun _ => 0) (fun _ => 0) 0 := ⟨by omega, rfl, fun k _ => ⟨rfl, Nat.zero_le 200⟩, fun k hk => absurd hk (by omega)⟩
theorem st_DR : DR (fun _ => 0) (fun _ => 0) (fun _ => 0) (fun _ => 0) (fun _ => 0) (fun _ => 0) 0 0 := ⟨by omega, fun j hj => absurd hj (by omega), fun _ _ => rfl, fun _ _ => rfl⟩
