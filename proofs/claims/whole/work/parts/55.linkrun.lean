/-! link and balanced, word by word -/
/-- what words a body holds before it is linked -/
def WP (kd wt ops : Nat → Int32) (x : Nat) : Prop := (kd x ≠ 2 ∧ ∃ o, ops x = nI o ∧ o < 53 ∧ (o < 33 ∨ 43 < o)) ∨ (kd x = 2 ∧ ∃ c, c < 13 ∧ wt x = nI c ∧ ops x = nI (33 + c))
/-- what link leaves as it is -/
def PA (kd wt : Nat → Int32) (s : Nat) (a0 args : Nat → Int32) : Prop := ∀ x, (x < s ∨ kd x ≠ 2 ∨ wt x = nI 12) → args x = a0 x
theorem PA_upd {kd wt a0 args : Nat → Int32} {s p c : Nat} {y : Int32} (h : PA kd wt s a0 args) (hc : isC kd wt (s + p) c) (h12 : c < 12) : PA kd wt s a0 (upd args (s + p) y) := by
  intro x hx
  by_cases e : x = s + p
  · subst e
    rcases hx with z | z | z
    · omega
    · exact absurd hc.1 z
    · exact absurd ((nI_eq (by omega) (by omega)).mp (hc.2.symm.trans z)) (by omega)
  · rw [pk_un e]; exact h x hx
section
variable {ops kd wt args wa op : Nat → Int32} {s n q c f g : Nat} {o l : Nat}
theorem lk_fail {x2 x4 o l : Int32} : fnX2_link_15 ops (f + 1) x2 0 x4 args wa o l = some (0, args, wa, o, l) := by
  rw [fnX2_link_15]
  unfold fnX2_link_154
  rw [if_pos rfl]
  by_cases h : x2 ≤ x4
  · rw [if_pos h]
  · rw [if_neg h]; exact if_pos rfl
theorem lk_end : fnX2_link_15 ops (f + 1) (nI (s + n)) 1 (nI (s + n)) args wa (nI o) (nI l) = some (if nI o = 0 then 1 else 0, args, wa, nI o, nI l) := by
  rw [fnX2_link_15, if_pos (Int32.le_refl _)]
  unfold fnX2_link_154
  rw [if_neg (by decide)]
  by_cases h : nI o = 0
  · rw [if_pos h, if_pos h]
  · rw [if_neg h, if_neg h]
theorem bl_end {x3 x4 : Int32} : fnX12_balanced_8 kd wt (g + 1) (nI s) (nI n) x3 x4 (nI (s + n)) op = some (if x3 = 0 then 1 else 0, op) := by
  rw [fnX12_balanced_8, nI_add, if_pos (Int32.le_refl _)]
  by_cases h : x3 = 0
  · rw [if_pos h, if_pos h]
  · rw [if_neg h, if_neg h]
theorem X0_opAt {p : Nat} (hp : p < 200) : fnX0_opAt ops (nI p) = some (ops p) := by
  unfold fnX0_opAt
  rw [if_neg (nI_pos (by omega)), if_neg (lL_f 200 200 (by omega)), ga_n hp (by omega), bd1_s]
theorem X0_argAt {p : Nat} (hp : p < 200) : fnX0_argAt args (nI p) = some (args p) := by
  unfold fnX0_argAt
  rw [if_neg (nI_pos (by omega)), if_neg (lL_f 200 200 (by omega)), ga_n hp (by omega), bd1_s]
theorem X0_lead {p : Nat} {y : Int32} (hp : p < 200) : fnX0_lead args (nI p) y = some (upd args p y) := by
  unfold fnX0_lead
  rw [if_neg (nI_pos (by omega)), if_neg (lL_f 200 200 (by omega)), sa_n hp (by omega), bd1_s]
/-- a word that link passes -/
theorem lk_other {b : Nat} {od ld : Int32} (hq : s + q < s + n) (hs : s + n ≤ 200) (ho : ops (s + q) = nI b) (hb : b < 53) (hb2 : b < 33 ∨ 43 < b) : fnX2_link_15 ops (f + 1) (nI (s + n)) 1 (nI (s + q)) args wa od ld = fnX2_link_15 ops f (nI (s + n)) 1 (nI (s + (q + 1))) args wa od ld := by
  rw [fnX2_link_15, if_neg (fun z => absurd ((nI_leI (by omega) (by omega)).mp z) (by omega)), if_neg (by decide), X0_opAt (by omega), bd1_s, ho, if_neg (ne_L 33 33 (by omega)), if_neg (ne_L 34 34 (by omega)), if_neg (ne_L 35 35 (by omega)), if_neg (ne_L 36 36 (by omega)), if_neg (ne_L 37 37 (by omega)), if_neg (ne_L 38 38 (by omega)), if_neg (ne_L 39 39 (by omega)), if_neg (ne_L 40 40 (by omega)), if_neg (ne_L 41 41 (by omega)), if_neg (ne_L 42 42 (by omega)), if_neg (ne_L 43 43 (by omega))]
  unfold fnX2_link_148
  rw [nI_1]; rfl
theorem bl_other {x3 x4 : Int32} (hq : s + q < s + n) (hs : s + n ≤ 200) (hk : kd (s + q) ≠ 2) : fnX12_balanced_8 kd wt (g + 1) (nI s) (nI n) x3 x4 (nI (s + q)) op = fnX12_balanced_8 kd wt g (nI s) (nI n) x3 x4 (nI (s + (q + 1))) op := by
  rw [fnX12_balanced_8, nI_add, if_neg (fun z => absurd ((nI_leI (by omega) (by omega)).mp z) (by omega)), ga_n (by omega) (by omega), bd1_s, if_neg hk]
  unfold fnX12_balanced_295
  rw [nI_1]; rfl
/-- the top of the reference's open structures, -1 if there is none -/
def tpo (op : Nat → Int32) (o : Nat) : Int32 := if o = 0 then -1 else op (o - 1)
theorem bl_ctl {x4 : Int32} (hq : s + q < s + n) (hs : s + n ≤ 200) (hC : isC kd wt (s + q) c) (ho : o ≤ 8) : fnX12_balanced_8 kd wt (g + 1) (nI s) (nI n) (nI o) x4 (nI (s + q)) op = fnX12_balanced_52 kd wt (fnX12_balanced_8 kd wt g) (nI s) (nI n) (nI o) x4 (nI (s + q)) (nI c) (tpo op o) op := by
  rw [fnX12_balanced_8, nI_add, if_neg (fun z => absurd ((nI_leI (by omega) (by omega)).mp z) (by omega)), ga_n (by omega) (by omega), bd1_s, if_pos hC.1, ga_n (by omega) (by omega), bd1_s, hC.2]
  unfold tpo
  by_cases h : o = 0
  · rw [if_pos (lR_t 0 0 (by omega)), if_pos h]
  · rw [if_neg (lR_f 0 0 (by omega)), if_neg h, show nI o - 1 = nI (o - 1) from pk_sub (a := o) (b := 1) (by omega), ga_n (by omega) (by omega), bd1_s]
theorem lk_head {od ld : Int32} (hq : s + q < s + n) (hs : s + n ≤ 200) {R : Option (Int32 × (Nat → Int32) × (Nat → Int32) × Int32 × Int32)} (hR : ∀ r, r = ops (s + q) → (if r = (33 : Int32) then fnX2_link_96 ops (fnX2_link_15 ops f) (nI (s + n)) (nI (s + q)) r args wa od ld
        else if r = (34 : Int32) then fnX2_link_108 ops (fnX2_link_15 ops f) (nI (s + n)) (nI (s + q)) r args wa od ld
        else if r = (35 : Int32) then fnX2_link_120 ops (fnX2_link_15 ops f) (nI (s + n)) (nI (s + q)) r args wa od ld
        else if r = (36 : Int32) then fnX2_link_96 ops (fnX2_link_15 ops f) (nI (s + n)) (nI (s + q)) r args wa od ld
        else if r = (37 : Int32) then fnX2_link_120 ops (fnX2_link_15 ops f) (nI (s + n)) (nI (s + q)) r args wa od ld
        else if r = (38 : Int32) then fnX2_link_120 ops (fnX2_link_15 ops f) (nI (s + n)) (nI (s + q)) r args wa od ld
        else if r = (39 : Int32) then fnX2_link_108 ops (fnX2_link_15 ops f) (nI (s + n)) (nI (s + q)) r args wa od ld
        else if r = (40 : Int32) then fnX2_link_120 ops (fnX2_link_15 ops f) (nI (s + n)) (nI (s + q)) r args wa od ld
        else if r = (41 : Int32) then fnX2_link_96 ops (fnX2_link_15 ops f) (nI (s + n)) (nI (s + q)) r args wa od ld
        else if r = (42 : Int32) then fnX2_link_120 ops (fnX2_link_15 ops f) (nI (s + n)) (nI (s + q)) r args wa od ld
        else if r = (43 : Int32) then
          if ld ≤ 0 then fnX2_link_144 ops (fnX2_link_15 ops f) (nI (s + n)) (nI (s + q)) (0 : Int32) args wa od ld
          else fnX2_link_144 ops (fnX2_link_15 ops f) (nI (s + n)) (nI (s + q)) (1 : Int32) args wa od ld
        else fnX2_link_148 ops (fnX2_link_15 ops f) (nI (s + n)) 1 (nI (s + q)) args wa od ld) = R) : fnX2_link_15 ops (f + 1) (nI (s + n)) 1 (nI (s + q)) args wa od ld = R := by
  rw [fnX2_link_15, if_neg (fun z => absurd ((nI_leI (by omega) (by omega)).mp z) (by omega)), if_neg (by decide), X0_opAt (by omega), bd1_s]
  exact hR _ rfl
/-! if, begin, do -/
theorem lk_open (hq : s + q < s + n) (hs : s + n ≤ 200) (hc : c = 0 ∨ c = 3 ∨ c = 8) (ho : ops (s + q) = nI (33 + c)) (ho8 : o ≤ 8) : fnX2_link_15 ops (f + 1) (nI (s + n)) 1 (nI (s + q)) args wa (nI o) (nI l) = if o < 8 then fnX2_link_15 ops f (nI (s + n)) 1 (nI (s + (q + 1))) args (upd wa o (nI (s + q))) (nI (o + 1)) (nI (l + if c = 8 then 1 else 0)) else fnX2_link_15 ops f (nI (s + n)) 0 (nI (s + (q + 1))) args wa (nI o) (nI l) := by
  have e96 : ∀ r, r = nI (33 + c) → fnX2_link_96 ops (fnX2_link_15 ops f) (nI (s + n)) (nI (s + q)) r args wa (nI o) (nI l) = if o < 8 then fnX2_link_15 ops f (nI (s + n)) 1 (nI (s + (q + 1))) args (upd wa o (nI (s + q))) (nI (o + 1)) (nI (l + if c = 8 then 1 else 0)) else fnX2_link_15 ops f (nI (s + n)) 0 (nI (s + (q + 1))) args wa (nI o) (nI l) := by
    intro r hr
    subst hr
    unfold fnX2_link_96 fnX2_begin fnX2_link_148
    rw [if_neg (nI_pos (by omega))]
    by_cases h8 : o < 8
    · rw [if_pos (sR_t 8 8 h8), if_pos h8, sa_n h8 (by omega), bd1_s]
      by_cases e : c = 8
      · rw [if_pos (by rw [e]; rfl), if_pos e, bd4_s, nI_1, nI_1, nI_1]; rfl
      · rw [if_neg (ne_L 41 41 (by omega)), if_neg e, bd4_s, nI_1, nI_1]; rfl
    · rw [if_neg (sR_f 8 8 h8), if_neg h8, bd4_s, nI_1]; rfl
  refine lk_head hq hs (fun r hr => ?_)
  rw [ho] at hr
  have e := e96 r hr
  subst hr
  rcases hc with rfl | rfl | rfl
  · rw [if_pos (by decide)]; exact e
  · rw [if_neg (by decide), if_neg (by decide), if_neg (by decide), if_pos (by decide)]; exact e
  · rw [if_neg (by decide), if_neg (by decide), if_neg (by decide), if_neg (by decide), if_neg (by decide), if_neg (by decide), if_neg (by decide), if_neg (by decide), if_pos (by decide)]; exact e
theorem bl_open (hq : s + q < s + n) (hs : s + n ≤ 200) (hc : c = 0 ∨ c = 3 ∨ c = 8) (hC : isC kd wt (s + q) c) (ho8 : o ≤ 8) : fnX12_balanced_8 kd wt (g + 1) (nI s) (nI n) (nI o) (nI l) (nI (s + q)) op = if o < 8 then fnX12_balanced_8 kd wt g (nI s) (nI n) (nI (o + 1)) (nI (l + if c = 8 then 1 else 0)) (nI (s + (q + 1))) (upd op o (nI c)) else some (0, op) := by
  have e72 : fnX12_balanced_72 kd wt (fnX12_balanced_8 kd wt g) (nI s) (nI n) (nI o) (nI l) (nI (s + q)) (nI c) op = if o < 8 then fnX12_balanced_8 kd wt g (nI s) (nI n) (nI (o + 1)) (nI (l + if c = 8 then 1 else 0)) (nI (s + (q + 1))) (upd op o (nI c)) else some (0, op) := by
    unfold fnX12_balanced_72 fnX12_balanced_295
    by_cases h8 : o < 8
    · rw [if_neg (ne_L 8 8 (by omega)), if_pos h8, sa_n (by omega) (by omega), bd1_s]
      by_cases e : c = 8
      · rw [if_pos (by rw [e]; rfl), if_pos e, nI_1, nI_1, nI_1]; rfl
      · rw [if_neg (ne_L 8 8 e), if_neg e, nI_1, nI_1]; rfl
    · rw [if_pos (by rw [show o = 8 by omega]; rfl), if_neg h8]
  rw [bl_ctl hq hs hC ho8]
  unfold fnX12_balanced_52
  rcases hc with rfl | rfl | rfl
  · rw [if_pos (by decide)]; exact e72
  · rw [if_neg (by decide), if_pos (by decide)]; exact e72
  · rw [if_neg (by decide), if_neg (by decide), if_pos (by decide)]; exact e72
/-! else, while -/
theorem lk_div0 (hq : s + q < s + n) (hs : s + n ≤ 200) (hc : c = 1 ∨ c = 6) (ho : ops (s + q) = nI (33 + c)) {ld : Int32} : fnX2_link_15 ops (f + 1) (nI (s + n)) 1 (nI (s + q)) args wa (nI 0) ld = fnX2_link_15 ops f (nI (s + n)) 0 (nI (s + (q + 1))) args wa (nI 0) ld := by
  refine lk_head hq hs (fun r hr => ?_)
  rw [ho] at hr
  subst hr
  unfold fnX2_link_108 fnX2_divide fnX2_link_148
  rcases hc with rfl | rfl
  · rw [if_neg (by decide), if_pos (by decide), if_pos (by decide), bd3_s, nI_1]; rfl
  · rw [if_neg (by decide), if_neg (by decide), if_neg (by decide), if_neg (by decide), if_neg (by decide), if_neg (by decide), if_pos (by decide), if_pos (by decide), bd3_s, nI_1]; rfl
theorem lk_else {w cc : Nat} (hq : s + q < s + n) (hs : s + n ≤ 200) (ho : ops (s + q) = nI 34) (ho8 : o < 8) (hw : wa o = nI w) (hw2 : w < 200) (hcc : ops w = nI (33 + cc)) (hcc2 : cc < 13) {ld : Int32} : fnX2_link_15 ops (f + 1) (nI (s + n)) 1 (nI (s + q)) args wa (nI (o + 1)) ld = fnX2_link_15 ops f (nI (s + n)) (if cc = 0 then 1 else 0) (nI (s + (q + 1))) (upd args w (nI (s + (q + 1)))) (upd wa o (nI (s + q))) (nI (o + 1)) ld := by
  refine lk_head hq hs (fun r hr => ?_)
  rw [ho] at hr
  subst hr
  unfold fnX2_link_108 fnX2_divide fnX2_link_148
  rw [if_neg (by decide), if_pos (by decide), if_neg (lR_f 0 0 (by omega)), if_pos (lR_t 8 8 (by omega)), show nI (o + 1) - 1 = nI o from pk_sub (a := o + 1) (b := 1) (by omega), ga_n (by omega) (by omega), bd1_s, sa_n (by omega) (by omega), bd1_s, if_pos (by decide), hw, X0_lead hw2, bd1_s, X0_opAt hw2, bd1_s, hcc, nI_1]
  by_cases e : cc = 0
  · rw [if_pos (by rw [e]; rfl), if_pos e, bd3_s]; rfl
  · rw [if_neg (ne_L 33 33 (by omega)), if_neg e, bd3_s]; rfl
theorem lk_while {w cc : Nat} (hq : s + q < s + n) (hs : s + n ≤ 200) (ho : ops (s + q) = nI 39) (ho8 : o < 8) (hw : wa o = nI w) (hw2 : w < 200) (hcc : ops w = nI (33 + cc)) (hcc2 : cc < 13) {ld : Int32} : fnX2_link_15 ops (f + 1) (nI (s + n)) 1 (nI (s + q)) args wa (nI (o + 1)) ld = fnX2_link_15 ops f (nI (s + n)) (if cc = 3 then 1 else 0) (nI (s + (q + 1))) (upd args (s + q) (nI (w + 1))) (upd wa o (nI (s + q))) (nI (o + 1)) ld := by
  refine lk_head hq hs (fun r hr => ?_)
  rw [ho] at hr
  subst hr
  unfold fnX2_link_108 fnX2_divide fnX2_link_148
  rw [if_neg (by decide), if_neg (by decide), if_neg (by decide), if_neg (by decide), if_neg (by decide), if_neg (by decide), if_pos (by decide), if_neg (lR_f 0 0 (by omega)), if_pos (lR_t 8 8 (by omega)), show nI (o + 1) - 1 = nI o from pk_sub (a := o + 1) (b := 1) (by omega), ga_n (by omega) (by omega), bd1_s, sa_n (by omega) (by omega), bd1_s, if_neg (by decide), hw, nI_1, X0_lead (by omega), bd1_s, X0_opAt hw2, bd1_s, hcc, nI_1]
  by_cases e : cc = 3
  · rw [if_pos (by rw [e]; rfl), if_pos e, bd3_s]; rfl
  · rw [if_neg (ne_L 36 36 (by omega)), if_neg e, bd3_s]; rfl
theorem bl_div0 {x4 : Int32} (hq : s + q < s + n) (hs : s + n ≤ 200) (hc : c = 1 ∨ c = 6) (hC : isC kd wt (s + q) c) : fnX12_balanced_8 kd wt (g + 1) (nI s) (nI n) (nI 0) x4 (nI (s + q)) op = some (0, op) := by
  rw [bl_ctl hq hs hC (by omega), show tpo op 0 = -1 from rfl]
  unfold fnX12_balanced_52
  rcases hc with rfl | rfl
  · rw [if_neg (by decide), if_neg (by decide), if_neg (by decide), if_pos (by decide), if_neg (by decide)]
  · rw [if_neg (by decide), if_neg (by decide), if_neg (by decide), if_neg (by decide), if_pos (by decide), if_neg (by decide)]
theorem bl_else {x4 : Int32} {cc : Nat} (hq : s + q < s + n) (hs : s + n ≤ 200) (hC : isC kd wt (s + q) 1) (ho8 : o < 8) (hcc : op o = nI cc) (hcc2 : cc < 13) : fnX12_balanced_8 kd wt (g + 1) (nI s) (nI n) (nI (o + 1)) x4 (nI (s + q)) op = if cc = 0 then fnX12_balanced_8 kd wt g (nI s) (nI n) (nI (o + 1)) x4 (nI (s + (q + 1))) (upd op o (nI 1)) else some (0, op) := by
  rw [bl_ctl hq hs hC (by omega), show tpo op (o + 1) = nI cc from by unfold tpo; rw [if_neg (by omega), Nat.add_sub_cancel]; exact hcc]
  unfold fnX12_balanced_52 fnX12_balanced_295
  rw [if_neg (by decide), if_neg (by decide), if_neg (by decide), if_pos (by decide)]
  by_cases e : cc = 0
  · rw [if_pos (by rw [e]; rfl), if_pos e, show nI (o + 1) - 1 = nI o from pk_sub (a := o + 1) (b := 1) (by omega), sa_n (by omega) (by omega), bd1_s, nI_1]; rfl
  · rw [if_neg (ne_L 0 0 e), if_neg e]
theorem bl_while {x4 : Int32} {cc : Nat} (hq : s + q < s + n) (hs : s + n ≤ 200) (hC : isC kd wt (s + q) 6) (ho8 : o < 8) (hcc : op o = nI cc) (hcc2 : cc < 13) : fnX12_balanced_8 kd wt (g + 1) (nI s) (nI n) (nI (o + 1)) x4 (nI (s + q)) op = if cc = 3 then fnX12_balanced_8 kd wt g (nI s) (nI n) (nI (o + 1)) x4 (nI (s + (q + 1))) (upd op o (nI 6)) else some (0, op) := by
  rw [bl_ctl hq hs hC (by omega), show tpo op (o + 1) = nI cc from by unfold tpo; rw [if_neg (by omega), Nat.add_sub_cancel]; exact hcc]
  unfold fnX12_balanced_52 fnX12_balanced_295
  rw [if_neg (by decide), if_neg (by decide), if_neg (by decide), if_neg (by decide), if_pos (by decide)]
  by_cases e : cc = 3
  · rw [if_pos (by rw [e]; rfl), if_pos e, show nI (o + 1) - 1 = nI o from pk_sub (a := o + 1) (b := 1) (by omega), sa_n (by omega) (by omega), bd1_s, nI_1]; rfl
  · rw [if_neg (ne_L 3 3 e), if_neg e]
/-! i -/
theorem lk_i {od : Int32} (hq : s + q < s + n) (hs : s + n ≤ 200) (ho : ops (s + q) = nI 43) (hl : l ≤ 300) : fnX2_link_15 ops (f + 1) (nI (s + n)) 1 (nI (s + q)) args wa od (nI l) = fnX2_link_15 ops f (nI (s + n)) (if l = 0 then 0 else 1) (nI (s + (q + 1))) args wa od (nI l) := by
  refine lk_head hq hs (fun r hr => ?_)
  rw [ho] at hr
  subst hr
  unfold fnX2_link_144 fnX2_link_148
  rw [if_neg (by decide), if_neg (by decide), if_neg (by decide), if_neg (by decide), if_neg (by decide), if_neg (by decide), if_neg (by decide), if_neg (by decide), if_neg (by decide), if_neg (by decide), if_pos (by decide), nI_1]
  by_cases e : l = 0
  · rw [if_pos (lR_t 0 0 (by omega)), if_pos e]; rfl
  · rw [if_neg (lR_f 0 0 (by omega)), if_neg e]; rfl
theorem bl_i (hq : s + q < s + n) (hs : s + n ≤ 200) (hC : isC kd wt (s + q) 10) (ho8 : o ≤ 8) (hl : l ≤ 300) : fnX12_balanced_8 kd wt (g + 1) (nI s) (nI n) (nI o) (nI l) (nI (s + q)) op = if l = 0 then some (0, op) else fnX12_balanced_8 kd wt g (nI s) (nI n) (nI o) (nI l) (nI (s + (q + 1))) op := by
  rw [bl_ctl hq hs hC ho8]
  unfold fnX12_balanced_52 fnX12_balanced_295
  rw [if_neg (by decide), if_neg (by decide), if_neg (by decide), if_neg (by decide), if_neg (by decide), if_pos (by decide), nI_1]
  by_cases e : l = 0
  · rw [if_pos (by rw [e]; rfl), if_pos e]
  · rw [if_neg (ne_L 0 0 e), if_neg e]; rfl
theorem bl_ex {x4 : Int32} (hq : s + q < s + n) (hs : s + n ≤ 200) (hc : c = 11 ∨ c = 12) (hC : isC kd wt (s + q) c) (ho8 : o ≤ 8) : fnX12_balanced_8 kd wt (g + 1) (nI s) (nI n) (nI o) x4 (nI (s + q)) op = fnX12_balanced_8 kd wt g (nI s) (nI n) (nI o) x4 (nI (s + (q + 1))) op := by
  rw [bl_ctl hq hs hC ho8]
  unfold fnX12_balanced_52 fnX12_balanced_295
  rcases hc with rfl | rfl
  · rw [if_neg (by decide), if_neg (by decide), if_neg (by decide), if_neg (by decide), if_neg (by decide), if_neg (by decide), if_pos (by decide), nI_1]; rfl
  · rw [if_neg (by decide), if_neg (by decide), if_neg (by decide), if_neg (by decide), if_neg (by decide), if_neg (by decide), if_neg (by decide), if_pos (by decide), nI_1]; rfl
/-! the words that close -/
theorem lk_120 {od ld : Int32} (hq : s + q < s + n) (hs : s + n ≤ 200) (hc : c = 2 ∨ c = 4 ∨ c = 5 ∨ c = 7 ∨ c = 9) (ho : ops (s + q) = nI (33 + c)) {r' : Int32} {args' : Nat → Int32} {o' l' : Int32} (hcl : fnX2_close ops args wa od ld (nI (s + q)) (nI (33 + c)) = some (r', args', o', l')) : fnX2_link_15 ops (f + 1) (nI (s + n)) 1 (nI (s + q)) args wa od ld = fnX2_link_15 ops f (nI (s + n)) r' (nI (s + (q + 1))) args' wa o' l' := by
  refine lk_head hq hs (fun r hr => ?_)
  rw [ho] at hr
  subst hr
  have e : fnX2_link_120 ops (fnX2_link_15 ops f) (nI (s + n)) (nI (s + q)) (nI (33 + c)) args wa od ld = fnX2_link_15 ops f (nI (s + n)) r' (nI (s + (q + 1))) args' wa o' l' := by
    unfold fnX2_link_120 fnX2_link_148
    rw [hcl, bd4_s, nI_1]; rfl
  rcases hc with rfl | rfl | rfl | rfl | rfl
  · rw [if_neg (by decide), if_neg (by decide), if_pos (by decide)]; exact e
  · rw [if_neg (by decide), if_neg (by decide), if_neg (by decide), if_neg (by decide), if_pos (by decide)]; exact e
  · rw [if_neg (by decide), if_neg (by decide), if_neg (by decide), if_neg (by decide), if_neg (by decide), if_pos (by decide)]; exact e
  · rw [if_neg (by decide), if_neg (by decide), if_neg (by decide), if_neg (by decide), if_neg (by decide), if_neg (by decide), if_neg (by decide), if_pos (by decide)]; exact e
  · rw [if_neg (by decide), if_neg (by decide), if_neg (by decide), if_neg (by decide), if_neg (by decide), if_neg (by decide), if_neg (by decide), if_neg (by decide), if_neg (by decide), if_pos (by decide)]; exact e
theorem cl_0 {ld p r : Int32} : fnX2_close ops args wa (nI 0) ld p r = some (0, args, nI 0, ld) := by
  unfold fnX2_close
  rw [if_pos (by decide)]
/-- does the closing word fit what is open -/
def fit (c cc : Nat) : Bool := if c = 2 then cc == 0 || cc == 1 else if c = 7 then cc == 6 else if c = 9 then cc == 8 else cc == 3
/-- where the closing word at p leads what waits at w -/
def clA (args : Nat → Int32) (c w p : Nat) : Nat → Int32 := if c = 2 then upd args w (nI (p + 1)) else if c = 7 then upd (upd args p (args w)) w (nI (p + 1)) else upd args p (nI (w + 1))
theorem cl_1 {w cc p : Nat} (hc : c = 2 ∨ c = 4 ∨ c = 5 ∨ c = 7 ∨ c = 9) (ho8 : o < 8) (hw : wa o = nI w) (hw2 : w < 200) (hp : p < 200) (hcc : ops w = nI (33 + cc)) (hcc2 : cc < 13) {ld : Int32} : fnX2_close ops args wa (nI (o + 1)) ld (nI p) (nI (33 + c)) = some (if fit c cc then 1 else 0, clA args c w p, nI o, if c = 9 then ld - 1 else ld) := by
  unfold fnX2_close fit clA
  rw [if_neg (lR_f 0 0 (by omega)), if_pos (lR_t 8 8 (by omega)), show nI (o + 1) - 1 = nI o from pk_sub (a := o + 1) (b := 1) (by omega), ga_n (by omega) (by omega), bd1_s, hw, X0_opAt hw2, bd1_s, hcc, nI_1, nI_1]
  have hcs : ∀ k, k < 13 → (nI (33 + cc) = nI (33 + k) ↔ cc = k) := fun k hk => (nI_eq (by omega) (by omega)).trans (by omega)
  have e0 : nI (33 + cc) = 33 ↔ cc = 0 := hcs 0 (by omega)
  have e1 : nI (33 + cc) = 34 ↔ cc = 1 := hcs 1 (by omega)
  have e3 : nI (33 + cc) = 36 ↔ cc = 3 := hcs 3 (by omega)
  have e6 : nI (33 + cc) = 39 ↔ cc = 6 := hcs 6 (by omega)
  have e8 : nI (33 + cc) = 41 ↔ cc = 8 := hcs 8 (by omega)
  rcases hc with rfl | rfl | rfl | rfl | rfl
  · rw [if_pos (by decide), X0_lead hw2, bd1_s]
    by_cases a0 : cc = 0
    · rw [if_pos (e0.mpr a0), a0]; rfl
    · rw [if_neg (fun z => a0 (e0.mp z))]
      by_cases a1 : cc = 1
      · rw [if_pos (e1.mpr a1), a1]; rfl
      · rw [if_neg (fun z => a1 (e1.mp z))]; simp [a0, a1]
  · rw [if_neg (by decide), if_neg (by decide), if_neg (by decide), X0_lead hp, bd1_s]
    by_cases a0 : cc = 3
    · rw [if_pos (e3.mpr a0), a0]; rfl
    · rw [if_neg (fun z => a0 (e3.mp z))]; simp [a0]
  · rw [if_neg (by decide), if_neg (by decide), if_neg (by decide), X0_lead hp, bd1_s]
    by_cases a0 : cc = 3
    · rw [if_pos (e3.mpr a0), a0]; rfl
    · rw [if_neg (fun z => a0 (e3.mp z))]; simp [a0]
  · rw [if_neg (by decide), if_pos (by decide), X0_argAt hw2, bd1_s, X0_lead hp, bd1_s, X0_lead hw2, bd1_s]
    by_cases a0 : cc = 6
    · rw [if_pos (e6.mpr a0), a0]; rfl
    · rw [if_neg (fun z => a0 (e6.mp z))]; simp [a0]
  · rw [if_neg (by decide), if_neg (by decide), if_pos (by decide), X0_lead hp, bd1_s]
    by_cases a0 : cc = 8
    · rw [if_pos (e8.mpr a0), a0]; rfl
    · rw [if_neg (fun z => a0 (e8.mp z))]; simp [a0]
theorem bl_cl0 {x4 : Int32} (hq : s + q < s + n) (hs : s + n ≤ 200) (hc : c = 2 ∨ c = 4 ∨ c = 5 ∨ c = 7 ∨ c = 9) (hC : isC kd wt (s + q) c) : fnX12_balanced_8 kd wt (g + 1) (nI s) (nI n) (nI 0) x4 (nI (s + q)) op = some (0, op) := by
  rw [bl_ctl hq hs hC (by omega), show tpo op 0 = -1 from rfl]
  unfold fnX12_balanced_52 fnX12_balanced_269
  rcases hc with rfl | rfl | rfl | rfl | rfl
  · rw [if_neg (by decide), if_neg (by decide), if_neg (by decide), if_neg (by decide), if_neg (by decide), if_neg (by decide), if_neg (by decide), if_neg (by decide), if_pos (by decide), if_neg (by decide), if_neg (by decide), if_pos (by decide)]
  · rw [if_neg (by decide), if_neg (by decide), if_neg (by decide), if_neg (by decide), if_neg (by decide), if_neg (by decide), if_neg (by decide), if_neg (by decide), if_neg (by decide), if_neg (by decide), if_neg (by decide), if_neg (by decide), if_pos (by decide)]
  · rw [if_neg (by decide), if_neg (by decide), if_neg (by decide), if_neg (by decide), if_neg (by decide), if_neg (by decide), if_neg (by decide), if_neg (by decide), if_neg (by decide), if_neg (by decide), if_neg (by decide), if_neg (by decide), if_pos (by decide)]
  · rw [if_neg (by decide), if_neg (by decide), if_neg (by decide), if_neg (by decide), if_neg (by decide), if_neg (by decide), if_neg (by decide), if_neg (by decide), if_neg (by decide), if_pos (by decide), if_neg (by decide), if_pos (by decide)]
  · rw [if_neg (by decide), if_neg (by decide), if_neg (by decide), if_neg (by decide), if_neg (by decide), if_neg (by decide), if_neg (by decide), if_neg (by decide), if_neg (by decide), if_neg (by decide), if_pos (by decide), if_neg (by decide), if_pos (by decide)]
theorem bl_cl1 {x4 : Int32} {cc : Nat} (hq : s + q < s + n) (hs : s + n ≤ 200) (hc : c = 2 ∨ c = 4 ∨ c = 5 ∨ c = 7 ∨ c = 9) (hC : isC kd wt (s + q) c) (ho8 : o < 8) (hcc : op o = nI cc) (hcc2 : cc < 13) : fnX12_balanced_8 kd wt (g + 1) (nI s) (nI n) (nI (o + 1)) x4 (nI (s + q)) op = if fit c cc then fnX12_balanced_8 kd wt g (nI s) (nI n) (nI o) (if c = 9 then x4 - 1 else x4) (nI (s + (q + 1))) op else some (0, op) := by
  rw [bl_ctl hq hs hC (by omega), show tpo op (o + 1) = nI cc from by unfold tpo; rw [if_neg (by omega), Nat.add_sub_cancel]; exact hcc]
  have hcs : ∀ k, k < 13 → (nI cc = nI k ↔ cc = k) := fun k hk => nI_eq (by omega) (by omega)
  have e0 : nI cc = 0 ↔ cc = 0 := hcs 0 (by omega)
  have e1 : nI cc = 1 ↔ cc = 1 := hcs 1 (by omega)
  have e3 : nI cc = 3 ↔ cc = 3 := hcs 3 (by omega)
  have e6 : nI cc = 6 ↔ cc = 6 := hcs 6 (by omega)
  have e8 : nI cc = 8 ↔ cc = 8 := hcs 8 (by omega)
  unfold fnX12_balanced_52 fnX12_balanced_206 fnX12_balanced_269 fnX12_balanced_291 fnX12_balanced_295 fit
  rw [show nI (o + 1) - 1 = nI o from pk_sub (a := o + 1) (b := 1) (by omega), nI_1]
  rcases hc with rfl | rfl | rfl | rfl | rfl
  · rw [if_neg (by decide), if_neg (by decide), if_neg (by decide), if_neg (by decide), if_neg (by decide), if_neg (by decide), if_neg (by decide), if_neg (by decide), if_pos (by decide)]
    by_cases a0 : cc = 0
    · rw [if_pos (e0.mpr a0), a0]; rfl
    · rw [if_neg (fun z => a0 (e0.mp z))]
      by_cases a1 : cc = 1
      · rw [if_pos (e1.mpr a1), a1]; rfl
      · rw [if_neg (fun z => a1 (e1.mp z)), if_pos rfl]; simp [a0, a1]
  · rw [if_neg (by decide), if_neg (by decide), if_neg (by decide), if_neg (by decide), if_neg (by decide), if_neg (by decide), if_neg (by decide), if_neg (by decide), if_neg (by decide), if_neg (by decide), if_neg (by decide)]
    by_cases a0 : cc = 3
    · rw [if_pos (e3.mpr a0), a0]; rfl
    · rw [if_neg (fun z => a0 (e3.mp z)), if_pos rfl]; simp [a0]
  · rw [if_neg (by decide), if_neg (by decide), if_neg (by decide), if_neg (by decide), if_neg (by decide), if_neg (by decide), if_neg (by decide), if_neg (by decide), if_neg (by decide), if_neg (by decide), if_neg (by decide)]
    by_cases a0 : cc = 3
    · rw [if_pos (e3.mpr a0), a0]; rfl
    · rw [if_neg (fun z => a0 (e3.mp z)), if_pos rfl]; simp [a0]
  · rw [if_neg (by decide), if_neg (by decide), if_neg (by decide), if_neg (by decide), if_neg (by decide), if_neg (by decide), if_neg (by decide), if_neg (by decide), if_neg (by decide), if_pos (by decide)]
    by_cases a0 : cc = 6
    · rw [if_pos (e6.mpr a0), a0]; rfl
    · rw [if_neg (fun z => a0 (e6.mp z)), if_pos rfl]; simp [a0]
  · rw [if_neg (by decide), if_neg (by decide), if_neg (by decide), if_neg (by decide), if_neg (by decide), if_neg (by decide), if_neg (by decide), if_neg (by decide), if_neg (by decide), if_neg (by decide), if_pos (by decide)]
    by_cases a0 : cc = 8
    · rw [if_pos (e8.mpr a0), a0]; rfl
    · rw [if_neg (fun z => a0 (e8.mp z)), if_pos rfl]; simp [a0]
end
