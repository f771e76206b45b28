/-! TABLE: the contracts of StepMap$Table (laid by gen_table.py) -/
theorem hin_X0_init_X0 : ∀ w ∈ wsX00, w ∈ wsX0_init := by decide +kernel
theorem hin_X0_clear_X0 : ∀ w ∈ wsX00, w ∈ wsX0_clear := by decide +kernel
theorem hin_X0_home_X0 : ∀ w ∈ wsX00, w ∈ wsX0_home := by decide +kernel
theorem hin_X0_next_X0 : ∀ w ∈ wsX00, w ∈ wsX0_next := by decide +kernel
theorem hin_X0_holds_X0 : ∀ w ∈ wsX00, w ∈ wsX0_holds := by decide +kernel
theorem hin_X0_endsSearch_X0 : ∀ w ∈ wsX00, w ∈ wsX0_endsSearch := by decide +kernel
theorem hin_X0_reachesBack_X0 : ∀ w ∈ wsX00, w ∈ wsX0_reachesBack := by decide +kernel
theorem hin_X0_ringDistance_X0 : ∀ w ∈ wsX00, w ∈ wsX0_ringDistance := by decide +kernel
theorem hin_X0_fill_X0 : ∀ w ∈ wsX00, w ∈ wsX0_fill := by decide +kernel
theorem hin_X0_shift_X0 : ∀ w ∈ wsX00, w ∈ wsX0_shift := by decide +kernel
/-- the first i marks cleared -/
def q_cl (M : Nat → Int32) (i : Nat) : Nat → Int32 := fun j => if j < i then 0 else M j
theorem q_cl_0 (M : Nat → Int32) : q_cl M 0 = M := funext fun j => if_neg (Nat.not_lt_zero j)
theorem q_cl_s (M : Nat → Int32) (i : Nat) : upd (q_cl M i) i 0 = q_cl M (i + 1) := by
  funext j
  show (if j = i then (0 : Int32) else if j < i then 0 else M j) = if j < i + 1 then 0 else M j
  by_cases h : j = i
  · rw [if_pos h, if_pos (by omega)]
  · rw [if_neg h]
    by_cases h2 : j < i
    · rw [if_pos h2, if_pos (by omega)]
    · rw [if_neg h2, if_neg (by omega)]
set_option maxHeartbeats 4000000 in
set_option maxRecDepth 100000 in
theorem c_X0_home (l : Launch) (dC : Nat → ClassId) (dI : Nat → Nat → Nat) (cI : ClassId) (ta ma ka va L n : Nat) (M K V : Nat → Int32) (k : Int32) (hn : q_pw n) (hnL : n ≤ L) (hL : L ≤ 1024) : Met l yX0_home wsX0_home ({ frames := 0, cells := 0, slots := 0, locals := 0 }) (r_Pc (dC, dI) vwCl [(cI, .int)] [(ta, .inr (0, [.ref ma, .ref ka, .ref va, .int (nI n)])), (ma, .inl (cI, L, .inl M)), (ka, .inl (cI, L, .inl K)), (va, .inl (cI, L, .inl V))] [.ref ta, .int k]) (vp_Si (fun r => r = nI (q_hm n k))) 0 0 (fun _ => False) := by
  refine Met.ofW (cc := cX0_home) (maxL := 3) (ret := (some .int)) (by decide) rfl ?_
  intro p e s m args below meth c s₁ Bd hml hv
  obtain ⟨rfl, hP, hK⟩ := hv
  have hx := Bd.exec
  have hb := Bd.bytes
  have hr := Bd.returns
  have hts := atoms_spec (ws := wsX0_home) Bd.pre
  have hown : s.vm.findClass RX0 = some m.cls := findClass_of_methodNamed Bd.named
  have hlocks := Bd.notSynchronized
  have S0 : CallFix p m c cX0_home 3 s _ wsX0_home RX0 := ⟨hx, hb, hml, hown, hts⟩
  have hP : va_P (dC, dI) vwCl [(ta, .inr (0, [.ref ma, .ref ka, .ref va, .int (nI n)])), (ma, .inl (cI, L, .inl M)), (ka, .inl (cI, L, .inl K)), (va, .inl (cI, L, .inl V))] s.heap := hP
  have hl := lv_entry ([.ref ta, .int k]) (n := 3) (Nat.le_of_ble_eq_true rfl)
  rw [lg_entry_eq]
  generalize (lg_sl ([.ref ta, .int k]) ++ List.replicate (3 - (lg_sl ([.ref ta, .int k])).length) Slot.unset).toArray = ls at hl ⊢
  have hl : lv_has ls 3 [(0, .ref ta), (1, .int k)] := hl
  have hn8 := q_pw_8 hn
  refine lv_iload_n hx hb dX0_home_0 rfl (lv_at hl 1 rfl) ?_
  refine lv_ldc (v := -1640531535) hx hb hown (hts (.constant RX0 29 (-1640531535)) (by decide +kernel)) dX0_home_1 ?_
  refine lv_imul hx hb dX0_home_3 ?_
  refine lv_istore_n (lv' := [(2, .int (k * (-1640531535))), (0, .ref ta), (1, .int k)]) hx hb dX0_home_4 rfl hl (by decide) rfl (fun ls hl => ?_)
  refine lv_iload_n hx hb dX0_home_5 rfl (lv_at hl 0 rfl) ?_
  refine lv_iload_n hx hb dX0_home_6 rfl (lv_at hl 0 rfl) ?_
  refine lv_bipush (v := 15) hx hb dX0_home_7 (by decide) ?_
  refine lv_iushr (v := ((k * (-1640531535)).toUInt32 >>> ((15 : Int32).toUInt32 &&& Int32.toUInt32 31)).toInt32) hx hb dX0_home_9 rfl ?_
  refine lv_ixor hx hb dX0_home_10 ?_
  refine lv_aload_n hx hb dX0_home_11 rfl (lv_at hl 1 rfl) ?_
  refine va_get (D := (dC, dI)) (ci := 0) (v := .int (nI n)) (C := RX0) (T := TX0) (N := 4) hx hb hts hin_X0_home_X0 hown hK hP 0 rfl rfl 3 (by decide) (hts (.fieldLink RX0 19 "StepMap$Table" "slots" "I") (by decide +kernel)) (fun _ h9 => h9) rfl dX0_home_12 ?_
  refine lv_iconst (v := 1) hx hb dX0_home_15 (by decide) ?_
  refine lv_isub hx hb dX0_home_16 ?_
  refine lv_iand hx hb dX0_home_17 ?_
  exact W.iret (v := ((k * (-1640531535)) ^^^ (((k * (-1640531535)).toUInt32 >>> ((15 : Int32).toUInt32 &&& Int32.toUInt32 31)).toInt32)) &&& ((nI n) - 1)) hx hb hr (fun t ht hW => ⟨_, rfl, q_home_eq hn k, ht⟩) (fun _ h => by cases h) dX0_home_18
set_option maxHeartbeats 4000000 in
set_option maxRecDepth 100000 in
theorem c_X0_next (l : Launch) (dC : Nat → ClassId) (dI : Nat → Nat → Nat) (cI : ClassId) (ta ma ka va L n : Nat) (M K V : Nat → Int32) (a : Nat) (hn : q_pw n) (hnL : n ≤ L) (hL : L ≤ 1024) (ha : a < n) : Met l yX0_next wsX0_next ({ frames := 0, cells := 0, slots := 0, locals := 0 }) (r_Pc (dC, dI) vwCl [(cI, .int)] [(ta, .inr (0, [.ref ma, .ref ka, .ref va, .int (nI n)])), (ma, .inl (cI, L, .inl M)), (ka, .inl (cI, L, .inl K)), (va, .inl (cI, L, .inl V))] [.ref ta, .int (nI a)]) (vp_Si (fun r => r = nI (q_ad n a 1))) 0 0 (fun _ => False) := by
  refine Met.ofW (cc := cX0_next) (maxL := 2) (ret := (some .int)) (by decide) rfl ?_
  intro p e s m args below meth c s₁ Bd hml hv
  obtain ⟨rfl, hP, hK⟩ := hv
  have hx := Bd.exec
  have hb := Bd.bytes
  have hr := Bd.returns
  have hts := atoms_spec (ws := wsX0_next) Bd.pre
  have hown : s.vm.findClass RX0 = some m.cls := findClass_of_methodNamed Bd.named
  have hlocks := Bd.notSynchronized
  have S0 : CallFix p m c cX0_next 2 s _ wsX0_next RX0 := ⟨hx, hb, hml, hown, hts⟩
  have hP : va_P (dC, dI) vwCl [(ta, .inr (0, [.ref ma, .ref ka, .ref va, .int (nI n)])), (ma, .inl (cI, L, .inl M)), (ka, .inl (cI, L, .inl K)), (va, .inl (cI, L, .inl V))] s.heap := hP
  have hl := lv_entry ([.ref ta, .int (nI a)]) (n := 2) (Nat.le_of_ble_eq_true rfl)
  rw [lg_entry_eq]
  generalize (lg_sl ([.ref ta, .int (nI a)]) ++ List.replicate (2 - (lg_sl ([.ref ta, .int (nI a)])).length) Slot.unset).toArray = ls at hl ⊢
  have hl : lv_has ls 2 [(0, .ref ta), (1, .int (nI a))] := hl
  have hn8 := q_pw_8 hn
  refine lv_iload_n hx hb dX0_next_0 rfl (lv_at hl 1 rfl) ?_
  refine lv_iconst (v := 1) hx hb dX0_next_1 (by decide) ?_
  refine lv_iadd hx hb dX0_next_2 ?_
  refine lv_aload_n hx hb dX0_next_3 rfl (lv_at hl 0 rfl) ?_
  refine va_get (D := (dC, dI)) (ci := 0) (v := .int (nI n)) (C := RX0) (T := TX0) (N := 4) hx hb hts hin_X0_next_X0 hown hK hP 0 rfl rfl 3 (by decide) (hts (.fieldLink RX0 19 "StepMap$Table" "slots" "I") (by decide +kernel)) (fun _ h9 => h9) rfl dX0_next_4 ?_
  refine lv_iconst (v := 1) hx hb dX0_next_7 (by decide) ?_
  refine lv_isub hx hb dX0_next_8 ?_
  refine lv_iand hx hb dX0_next_9 ?_
  exact W.iret (v := ((nI a) + 1) &&& ((nI n) - 1)) hx hb hr (fun t ht hW => ⟨_, rfl, q_next_eq hn ha, ht⟩) (fun _ h => by cases h) dX0_next_10
set_option maxHeartbeats 4000000 in
set_option maxRecDepth 100000 in
theorem c_X0_ringDistance (l : Launch) (dC : Nat → ClassId) (dI : Nat → Nat → Nat) (cI : ClassId) (ta ma ka va L n : Nat) (M K V : Nat → Int32) (a b : Nat) (hn : q_pw n) (hnL : n ≤ L) (hL : L ≤ 1024) (ha : a < n) (hb2 : b < n) : Met l yX0_ringDistance wsX0_ringDistance ({ frames := 0, cells := 0, slots := 0, locals := 0 }) (r_Pc (dC, dI) vwCl [(cI, .int)] [(ta, .inr (0, [.ref ma, .ref ka, .ref va, .int (nI n)])), (ma, .inl (cI, L, .inl M)), (ka, .inl (cI, L, .inl K)), (va, .inl (cI, L, .inl V))] [.ref ta, .int (nI a), .int (nI b)]) (vp_Si (fun r => r = nI (q_rd n a b))) 0 0 (fun _ => False) := by
  refine Met.ofW (cc := cX0_ringDistance) (maxL := 3) (ret := (some .int)) (by decide) rfl ?_
  intro p e s m args below meth c s₁ Bd hml hv
  obtain ⟨rfl, hP, hK⟩ := hv
  have hx := Bd.exec
  have hb := Bd.bytes
  have hr := Bd.returns
  have hts := atoms_spec (ws := wsX0_ringDistance) Bd.pre
  have hown : s.vm.findClass RX0 = some m.cls := findClass_of_methodNamed Bd.named
  have hlocks := Bd.notSynchronized
  have S0 : CallFix p m c cX0_ringDistance 3 s _ wsX0_ringDistance RX0 := ⟨hx, hb, hml, hown, hts⟩
  have hP : va_P (dC, dI) vwCl [(ta, .inr (0, [.ref ma, .ref ka, .ref va, .int (nI n)])), (ma, .inl (cI, L, .inl M)), (ka, .inl (cI, L, .inl K)), (va, .inl (cI, L, .inl V))] s.heap := hP
  have hl := lv_entry ([.ref ta, .int (nI a), .int (nI b)]) (n := 3) (Nat.le_of_ble_eq_true rfl)
  rw [lg_entry_eq]
  generalize (lg_sl ([.ref ta, .int (nI a), .int (nI b)]) ++ List.replicate (3 - (lg_sl ([.ref ta, .int (nI a), .int (nI b)])).length) Slot.unset).toArray = ls at hl ⊢
  have hl : lv_has ls 3 [(0, .ref ta), (1, .int (nI a)), (2, .int (nI b))] := hl
  have hn8 := q_pw_8 hn
  refine lv_iload_n hx hb dX0_ringDistance_0 rfl (lv_at hl 2 rfl) ?_
  refine lv_iload_n hx hb dX0_ringDistance_1 rfl (lv_at hl 1 rfl) ?_
  refine lv_isub hx hb dX0_ringDistance_2 ?_
  refine lv_aload_n hx hb dX0_ringDistance_3 rfl (lv_at hl 0 rfl) ?_
  refine va_get (D := (dC, dI)) (ci := 0) (v := .int (nI n)) (C := RX0) (T := TX0) (N := 4) hx hb hts hin_X0_ringDistance_X0 hown hK hP 0 rfl rfl 3 (by decide) (hts (.fieldLink RX0 19 "StepMap$Table" "slots" "I") (by decide +kernel)) (fun _ h9 => h9) rfl dX0_ringDistance_4 ?_
  refine lv_iconst (v := 1) hx hb dX0_ringDistance_7 (by decide) ?_
  refine lv_isub hx hb dX0_ringDistance_8 ?_
  refine lv_iand hx hb dX0_ringDistance_9 ?_
  exact W.iret (v := ((nI b) - (nI a)) &&& ((nI n) - 1)) hx hb hr (fun t ht hW => ⟨_, rfl, q_ring_eq hn ha hb2, ht⟩) (fun _ h => by cases h) dX0_ringDistance_10
set_option maxHeartbeats 4000000 in
set_option maxRecDepth 100000 in
theorem c_X0_holds (l : Launch) (dC : Nat → ClassId) (dI : Nat → Nat → Nat) (cI : ClassId) (ta ma ka va L n : Nat) (M K V : Nat → Int32) (a : Nat) (k : Int32) (hn : q_pw n) (hnL : n ≤ L) (hL : L ≤ 1024) (ha : a < n) : Met l yX0_holds wsX0_holds ({ frames := 0, cells := 0, slots := 0, locals := 0 }) (r_Pc (dC, dI) vwCl [(cI, .int)] [(ta, .inr (0, [.ref ma, .ref ka, .ref va, .int (nI n)])), (ma, .inl (cI, L, .inl M)), (ka, .inl (cI, L, .inl K)), (va, .inl (cI, L, .inl V))] [.ref ta, .int (nI a), .int k]) (vp_Si (fun r => r = q_b (M a = 2 ∧ K a = k))) 0 0 (fun _ => False) := by
  refine Met.ofW (cc := cX0_holds) (maxL := 3) (ret := (some .boolean)) (by decide) rfl ?_
  intro p e s m args below meth c s₁ Bd hml hv
  obtain ⟨rfl, hP, hK⟩ := hv
  have hx := Bd.exec
  have hb := Bd.bytes
  have hr := Bd.returns
  have hts := atoms_spec (ws := wsX0_holds) Bd.pre
  have hown : s.vm.findClass RX0 = some m.cls := findClass_of_methodNamed Bd.named
  have hlocks := Bd.notSynchronized
  have S0 : CallFix p m c cX0_holds 3 s _ wsX0_holds RX0 := ⟨hx, hb, hml, hown, hts⟩
  have hP : va_P (dC, dI) vwCl [(ta, .inr (0, [.ref ma, .ref ka, .ref va, .int (nI n)])), (ma, .inl (cI, L, .inl M)), (ka, .inl (cI, L, .inl K)), (va, .inl (cI, L, .inl V))] s.heap := hP
  have hl := lv_entry ([.ref ta, .int (nI a), .int k]) (n := 3) (Nat.le_of_ble_eq_true rfl)
  rw [lg_entry_eq]
  generalize (lg_sl ([.ref ta, .int (nI a), .int k]) ++ List.replicate (3 - (lg_sl ([.ref ta, .int (nI a), .int k])).length) Slot.unset).toArray = ls at hl ⊢
  have hl : lv_has ls 3 [(0, .ref ta), (1, .int (nI a)), (2, .int k)] := hl
  have hn8 := q_pw_8 hn
  refine lv_aload_n hx hb dX0_holds_0 rfl (lv_at hl 0 rfl) ?_
  refine va_get (D := (dC, dI)) (ci := 0) (v := .ref ma) (C := RX0) (T := TX0) (N := 4) hx hb hts hin_X0_holds_X0 hown hK hP 0 rfl rfl 0 (by decide) (hts (.fieldLink RX0 7 "StepMap$Table" "marks" "[I") (by decide +kernel)) (fun _ h9 => h9) rfl dX0_holds_1 ?_
  refine lv_iload_n hx hb dX0_holds_4 rfl (lv_at hl 1 rfl) ?_
  refine r_ld (i := a) hx hb hK hP 1 0 rfl rfl (by omega) (by omega) dX0_holds_5 ?_
  refine lv_iconst (v := 2) hx hb dX0_holds_6 (by decide) ?_
  refine lv_icmp_ne (tgt := 24) hx hb dX0_holds_7 (by decide) (fun c_7 => ?_) (fun c_7 => ?_)
  · refine lv_iconst (v := 0) hx hb dX0_holds_24 (by decide) ?_
    exact W.zret (v := 0) hx hb hr (rfl) (fun t ht hW => ⟨_, rfl, (q_b_f (fun z => c_7 z.1)).symm, ht⟩) (fun _ h => by cases h) dX0_holds_25
  · refine lv_aload_n hx hb dX0_holds_10 rfl (lv_at hl 0 rfl) ?_
    refine va_get (D := (dC, dI)) (ci := 0) (v := .ref ka) (C := RX0) (T := TX0) (N := 4) hx hb hts hin_X0_holds_X0 hown hK hP 0 rfl rfl 1 (by decide) (hts (.fieldLink RX0 13 "StepMap$Table" "keys" "[I") (by decide +kernel)) (fun _ h9 => h9) rfl dX0_holds_11 ?_
    refine lv_iload_n hx hb dX0_holds_14 rfl (lv_at hl 1 rfl) ?_
    refine r_ld (i := a) hx hb hK hP 2 0 rfl rfl (by omega) (by omega) dX0_holds_15 ?_
    refine lv_iload_n hx hb dX0_holds_16 rfl (lv_at hl 2 rfl) ?_
    refine lv_icmp_ne (tgt := 24) hx hb dX0_holds_17 (by decide) (fun c_17 => ?_) (fun c_17 => ?_)
    · refine lv_iconst (v := 0) hx hb dX0_holds_24 (by decide) ?_
      exact W.zret (v := 0) hx hb hr (rfl) (fun t ht hW => ⟨_, rfl, (q_b_f (fun z => c_17 z.2)).symm, ht⟩) (fun _ h => by cases h) dX0_holds_25
    · refine lv_iconst (v := 1) hx hb dX0_holds_20 (by decide) ?_
      refine lv_goto (tgt := 25) hx hb dX0_holds_21 (by decide) ?_
      exact W.zret (v := 1) hx hb hr (rfl) (fun t ht hW => ⟨_, rfl, (q_b_t ⟨c_7, c_17⟩).symm, ht⟩) (fun _ h => by cases h) dX0_holds_25
set_option maxHeartbeats 4000000 in
set_option maxRecDepth 100000 in
theorem c_X0_endsSearch (l : Launch) (dC : Nat → ClassId) (dI : Nat → Nat → Nat) (cI : ClassId) (ta ma ka va L n : Nat) (M K V : Nat → Int32) (a : Nat) (k : Int32) (hn : q_pw n) (hnL : n ≤ L) (hL : L ≤ 1024) (ha : a < n) : Met l yX0_endsSearch wsX0_endsSearch ({ frames := 1, cells := 0, slots := 0, locals := 22 }) (r_Pc (dC, dI) vwCl [(cI, .int)] [(ta, .inr (0, [.ref ma, .ref ka, .ref va, .int (nI n)])), (ma, .inl (cI, L, .inl M)), (ka, .inl (cI, L, .inl K)), (va, .inl (cI, L, .inl V))] [.ref ta, .int (nI a), .int k]) (vp_Si (fun r => r = q_b (q_stp M K k a))) 0 0 (fun _ => False) := by
  refine Met.ofW (cc := cX0_endsSearch) (maxL := 3) (ret := (some .boolean)) (by decide) rfl ?_
  intro p e s m args below meth c s₁ Bd hml hv
  obtain ⟨rfl, hP, hK⟩ := hv
  have hx := Bd.exec
  have hb := Bd.bytes
  have hr := Bd.returns
  have hts := atoms_spec (ws := wsX0_endsSearch) Bd.pre
  have hown : s.vm.findClass RX0 = some m.cls := findClass_of_methodNamed Bd.named
  have hlocks := Bd.notSynchronized
  have S0 : CallFix p m c cX0_endsSearch 3 s _ wsX0_endsSearch RX0 := ⟨hx, hb, hml, hown, hts⟩
  have hP : va_P (dC, dI) vwCl [(ta, .inr (0, [.ref ma, .ref ka, .ref va, .int (nI n)])), (ma, .inl (cI, L, .inl M)), (ka, .inl (cI, L, .inl K)), (va, .inl (cI, L, .inl V))] s.heap := hP
  have hl := lv_entry ([.ref ta, .int (nI a), .int k]) (n := 3) (Nat.le_of_ble_eq_true rfl)
  rw [lg_entry_eq]
  generalize (lg_sl ([.ref ta, .int (nI a), .int k]) ++ List.replicate (3 - (lg_sl ([.ref ta, .int (nI a), .int k])).length) Slot.unset).toArray = ls at hl ⊢
  have hl : lv_has ls 3 [(0, .ref ta), (1, .int (nI a)), (2, .int k)] := hl
  have hn8 := q_pw_8 hn
  refine lv_aload_n hx hb dX0_endsSearch_0 rfl (lv_at hl 0 rfl) ?_
  refine va_get (D := (dC, dI)) (ci := 0) (v := .ref ma) (C := RX0) (T := TX0) (N := 4) hx hb hts hin_X0_endsSearch_X0 hown hK hP 0 rfl rfl 0 (by decide) (hts (.fieldLink RX0 7 "StepMap$Table" "marks" "[I") (by decide +kernel)) (fun _ h9 => h9) rfl dX0_endsSearch_1 ?_
  refine lv_iload_n hx hb dX0_endsSearch_4 rfl (lv_at hl 1 rfl) ?_
  refine r_ld (i := a) hx hb hK hP 1 0 rfl rfl (by omega) (by omega) dX0_endsSearch_5 ?_
  refine lv_if_eq (tgt := 18) hx hb dX0_endsSearch_6 (by decide) (fun c_6 => ?_) (fun c_6 => ?_)
  · refine lv_iconst (v := 1) hx hb dX0_endsSearch_18 (by decide) ?_
    refine lv_goto (tgt := 23) hx hb dX0_endsSearch_19 (by decide) ?_
    exact W.zret (v := 1) hx hb hr (rfl) (fun t ht hW => ⟨_, rfl, (q_b_t (Or.inl c_6)).symm, ht⟩) (fun _ h => by cases h) dX0_endsSearch_23
  · refine lv_aload_n hx hb dX0_endsSearch_9 rfl (lv_at hl 0 rfl) ?_
    refine lv_iload_n hx hb dX0_endsSearch_10 rfl (lv_at hl 1 rfl) ?_
    refine lv_iload_n hx hb dX0_endsSearch_11 rfl (lv_at hl 2 rfl) ?_
    refine r_roV (rest := []) S0 (c_X0_holds l dC dI cI ta ma ka va L n M K V a k (by assumption) (by omega) (by omega) (by omega)) (cwV 2 hts gX0_endsSearch_X0_holds rfl rfl rfl (by decide +kernel) ⟨Nat.le_of_ble_eq_true rfl, Nat.le_of_ble_eq_true rfl⟩) hK hP [0, 1, 2, 3] rfl (ci := 0) (q0 := 0) rfl rfl rfl rfl hl.1 rfl (Nat.le_of_ble_eq_true rfl) dX0_endsSearch_12 ⟨Nat.zero_le _, Nat.zero_le _⟩ ?_
    refine lv_if_eq (tgt := 22) hx hb dX0_endsSearch_15 (by decide) (fun c_15 => ?_) (fun c_15 => ?_)
    · have h_15 : ¬ (M a = 2 ∧ K a = k) := q_b_0.mp c_15
      refine lv_iconst (v := 0) hx hb dX0_endsSearch_22 (by decide) ?_
      exact W.zret (v := 0) hx hb hr (rfl) (fun t ht hW => ⟨_, rfl, (q_b_f (fun z => z.elim c_6 h_15)).symm, ht⟩) (fun _ h => by cases h) dX0_endsSearch_23
    · have h_15 : (M a = 2 ∧ K a = k) := q_b_n0 c_15
      refine lv_iconst (v := 1) hx hb dX0_endsSearch_18 (by decide) ?_
      refine lv_goto (tgt := 23) hx hb dX0_endsSearch_19 (by decide) ?_
      exact W.zret (v := 1) hx hb hr (rfl) (fun t ht hW => ⟨_, rfl, (q_b_t (Or.inr h_15)).symm, ht⟩) (fun _ h => by cases h) dX0_endsSearch_23
set_option maxHeartbeats 4000000 in
set_option maxRecDepth 100000 in
theorem c_X0_reachesBack (l : Launch) (dC : Nat → ClassId) (dI : Nat → Nat → Nat) (cI : ClassId) (ta ma ka va L n : Nat) (M K V : Nat → Int32) (a f : Nat) (hn : q_pw n) (hnL : n ≤ L) (hL : L ≤ 1024) (ha : a < n) (hf : f < n) : Met l yX0_reachesBack wsX0_reachesBack ({ frames := 1, cells := 0, slots := 0, locals := 22 }) (r_Pc (dC, dI) vwCl [(cI, .int)] [(ta, .inr (0, [.ref ma, .ref ka, .ref va, .int (nI n)])), (ma, .inl (cI, L, .inl M)), (ka, .inl (cI, L, .inl K)), (va, .inl (cI, L, .inl V))] [.ref ta, .int (nI a), .int (nI f)]) (vp_Si (fun r => r = q_b (q_rd n f a ≤ q_rd n (q_hm n (K a)) a))) 0 0 (fun _ => False) := by
  refine Met.ofW (cc := cX0_reachesBack) (maxL := 3) (ret := (some .boolean)) (by decide) rfl ?_
  intro p e s m args below meth c s₁ Bd hml hv
  obtain ⟨rfl, hP, hK⟩ := hv
  have hx := Bd.exec
  have hb := Bd.bytes
  have hr := Bd.returns
  have hts := atoms_spec (ws := wsX0_reachesBack) Bd.pre
  have hown : s.vm.findClass RX0 = some m.cls := findClass_of_methodNamed Bd.named
  have hlocks := Bd.notSynchronized
  have S0 : CallFix p m c cX0_reachesBack 3 s _ wsX0_reachesBack RX0 := ⟨hx, hb, hml, hown, hts⟩
  have hP : va_P (dC, dI) vwCl [(ta, .inr (0, [.ref ma, .ref ka, .ref va, .int (nI n)])), (ma, .inl (cI, L, .inl M)), (ka, .inl (cI, L, .inl K)), (va, .inl (cI, L, .inl V))] s.heap := hP
  have hl := lv_entry ([.ref ta, .int (nI a), .int (nI f)]) (n := 3) (Nat.le_of_ble_eq_true rfl)
  rw [lg_entry_eq]
  generalize (lg_sl ([.ref ta, .int (nI a), .int (nI f)]) ++ List.replicate (3 - (lg_sl ([.ref ta, .int (nI a), .int (nI f)])).length) Slot.unset).toArray = ls at hl ⊢
  have hl : lv_has ls 3 [(0, .ref ta), (1, .int (nI a)), (2, .int (nI f))] := hl
  have hn8 := q_pw_8 hn
  refine lv_aload_n hx hb dX0_reachesBack_0 rfl (lv_at hl 0 rfl) ?_
  refine lv_aload_n hx hb dX0_reachesBack_1 rfl (lv_at hl 0 rfl) ?_
  refine lv_aload_n hx hb dX0_reachesBack_2 rfl (lv_at hl 0 rfl) ?_
  refine va_get (D := (dC, dI)) (ci := 0) (v := .ref ka) (C := RX0) (T := TX0) (N := 4) hx hb hts hin_X0_reachesBack_X0 hown hK hP 0 rfl rfl 1 (by decide) (hts (.fieldLink RX0 13 "StepMap$Table" "keys" "[I") (by decide +kernel)) (fun _ h9 => h9) rfl dX0_reachesBack_3 ?_
  refine lv_iload_n hx hb dX0_reachesBack_6 rfl (lv_at hl 1 rfl) ?_
  refine r_ld (i := a) hx hb hK hP 2 0 rfl rfl (by omega) (by omega) dX0_reachesBack_7 ?_
  refine r_roV (rest := [.ref ta]) S0 (c_X0_home l dC dI cI ta ma ka va L n M K V (K a) (by assumption) (by omega) (by omega)) (cwV 1 hts gX0_reachesBack_X0_home rfl rfl rfl (by decide +kernel) ⟨Nat.le_of_ble_eq_true rfl, Nat.le_of_ble_eq_true rfl⟩) hK hP [0, 1, 2, 3] rfl (ci := 0) (q0 := 0) rfl rfl rfl rfl hl.1 rfl (Nat.le_of_ble_eq_true rfl) dX0_reachesBack_8 ⟨Nat.zero_le _, Nat.zero_le _⟩ ?_
  have hh := q_hm_lt (K a) (show 0 < n by omega)
  refine lv_iload_n hx hb dX0_reachesBack_11 rfl (lv_at hl 1 rfl) ?_
  refine r_roV (rest := []) S0 (c_X0_ringDistance l dC dI cI ta ma ka va L n M K V (q_hm n (K a)) a (by assumption) (by omega) (by omega) (by omega) (by omega)) (cwV 2 hts gX0_reachesBack_X0_ringDistance rfl rfl rfl (by decide +kernel) ⟨Nat.le_of_ble_eq_true rfl, Nat.le_of_ble_eq_true rfl⟩) hK hP [0, 1, 2, 3] rfl (ci := 0) (q0 := 0) rfl rfl rfl rfl hl.1 rfl (Nat.le_of_ble_eq_true rfl) dX0_reachesBack_12 ⟨Nat.zero_le _, Nat.zero_le _⟩ ?_
  refine lv_aload_n hx hb dX0_reachesBack_15 rfl (lv_at hl 0 rfl) ?_
  refine lv_iload_n hx hb dX0_reachesBack_16 rfl (lv_at hl 2 rfl) ?_
  refine lv_iload_n hx hb dX0_reachesBack_17 rfl (lv_at hl 1 rfl) ?_
  refine r_roV (rest := [.int (nI (q_rd n (q_hm n (K a)) a))]) S0 (c_X0_ringDistance l dC dI cI ta ma ka va L n M K V f a (by assumption) (by omega) (by omega) (by omega) (by omega)) (cwV 2 hts gX0_reachesBack_X0_ringDistance rfl rfl rfl (by decide +kernel) ⟨Nat.le_of_ble_eq_true rfl, Nat.le_of_ble_eq_true rfl⟩) hK hP [0, 1, 2, 3] rfl (ci := 0) (q0 := 0) rfl rfl rfl rfl hl.1 rfl (Nat.le_of_ble_eq_true rfl) dX0_reachesBack_18 ⟨Nat.zero_le _, Nat.zero_le _⟩ ?_
  have hr1 := q_rd_lt hh ha
  have hr2 := q_rd_lt hf ha
  refine lv_icmp_lt (tgt := 28) hx hb dX0_reachesBack_21 (by decide) (fun c_21 => ?_) (fun c_21 => ?_)
  · have h_21 := q_lt_t (a := q_rd n (q_hm n (K a)) a) (b := q_rd n f a) (by omega) (by omega) c_21
    refine lv_iconst (v := 0) hx hb dX0_reachesBack_28 (by decide) ?_
    exact W.zret (v := 0) hx hb hr (rfl) (fun t ht hW => ⟨_, rfl, (q_b_f (by omega)).symm, ht⟩) (fun _ h => by cases h) dX0_reachesBack_29
  · have h_21 := q_lt_f (a := q_rd n (q_hm n (K a)) a) (b := q_rd n f a) (by omega) (by omega) c_21
    refine lv_iconst (v := 1) hx hb dX0_reachesBack_24 (by decide) ?_
    refine lv_goto (tgt := 29) hx hb dX0_reachesBack_25 (by decide) ?_
    exact W.zret (v := 1) hx hb hr (rfl) (fun t ht hW => ⟨_, rfl, (q_b_t h_21).symm, ht⟩) (fun _ h => by cases h) dX0_reachesBack_29
set_option maxHeartbeats 4000000 in
set_option maxRecDepth 100000 in
theorem c_X0_fill (l : Launch) (dC : Nat → ClassId) (dI : Nat → Nat → Nat) (cI : ClassId) (ta ma ka va L n : Nat) (M K V : Nat → Int32) (a : Nat) (k v : Int32) (sz : Nat) (hn : q_pw n) (hnL : n ≤ L) (hL : L ≤ 1024) (ha : a < n) : Met l yX0_fill wsX0_fill ({ frames := 0, cells := 0, slots := 0, locals := 0 }) (r_Mc (dC, dI) vwCl [(cI, .int)] [(ta, .inr (0, [.ref ma, .ref ka, .ref va, .int (nI n)])), (ma, .inl (cI, L, .inl M)), (ka, .inl (cI, L, .inl K)), (va, .inl (cI, L, .inl V))] sz [.ref ta, .int (nI a), .int k, .int v]) (va_Qv (fun (_ : Unit) => True) (fun u t => r_B (dC, dI) vwCl [(cI, .int)] (va_A [(ta, .inr (0, [.ref ma, .ref ka, .ref va, .int (nI n)])), (ma, .inl (cI, L, .inl M)), (ka, .inl (cI, L, .inl K)), (va, .inl (cI, L, .inl V))] sz) ((fun _ => [(ta, .inr (0, [.ref ma, .ref ka, .ref va, .int (nI n)])), (ma, .inl (cI, L, .inl (upd M a 2))), (ka, .inl (cI, L, .inl (upd K a k))), (va, .inl (cI, L, .inl (upd V a v)))]) u) t) (va_A [(ta, .inr (0, [.ref ma, .ref ka, .ref va, .int (nI n)])), (ma, .inl (cI, L, .inl M)), (ka, .inl (cI, L, .inl K)), (va, .inl (cI, L, .inl V))] sz)) 0 0 (va_A [(ta, .inr (0, [.ref ma, .ref ka, .ref va, .int (nI n)])), (ma, .inl (cI, L, .inl M)), (ka, .inl (cI, L, .inl K)), (va, .inl (cI, L, .inl V))] sz) := by
  refine Met.ofW (cc := cX0_fill) (maxL := 4) (ret := none) (by decide) rfl ?_
  intro p e s m args below meth c s₁ Bd hml hv
  obtain ⟨rfl, hsz, hP, hK, hD0⟩ := hv
  have hx := Bd.exec
  have hb := Bd.bytes
  have hr := Bd.returns
  have hts := atoms_spec (ws := wsX0_fill) Bd.pre
  have hown : s.vm.findClass RX0 = some m.cls := findClass_of_methodNamed Bd.named
  have hlocks := Bd.notSynchronized
  have S0 : CallFix p m c cX0_fill 4 s _ wsX0_fill RX0 := ⟨hx, hb, hml, hown, hts⟩
  subst hsz
  have hD := hD0.self (sz := s.heap.size)
  generalize hAe : va_A [(ta, .inr (0, [.ref ma, .ref ka, .ref va, .int (nI n)])), (ma, .inl (cI, L, .inl M)), (ka, .inl (cI, L, .inl K)), (va, .inl (cI, L, .inl V))] s.heap.size = Aq at hD ⊢
  have hA : ∀ q : Nat, s.heap.size ≤ q → Aq q := fun q h => by rw [← hAe]; exact Or.inr h
  have hS : va_S Aq s.heap s.heap [] := va_S.rf
  have hD : va_D Aq [(ta, .inr (0, [.ref ma, .ref ka, .ref va, .int (nI n)])), (ma, .inl (cI, L, .inl M)), (ka, .inl (cI, L, .inl K)), (va, .inl (cI, L, .inl V))] := hD
  have hP : va_P (dC, dI) vwCl [(ta, .inr (0, [.ref ma, .ref ka, .ref va, .int (nI n)])), (ma, .inl (cI, L, .inl M)), (ka, .inl (cI, L, .inl K)), (va, .inl (cI, L, .inl V))] s.heap := hP
  have hl := lv_entry ([.ref ta, .int (nI a), .int k, .int v]) (n := 4) (Nat.le_of_ble_eq_true rfl)
  rw [lg_entry_eq]
  generalize (lg_sl ([.ref ta, .int (nI a), .int k, .int v]) ++ List.replicate (4 - (lg_sl ([.ref ta, .int (nI a), .int k, .int v])).length) Slot.unset).toArray = ls at hl ⊢
  have hl : lv_has ls 4 [(0, .ref ta), (1, .int (nI a)), (2, .int k), (3, .int v)] := hl
  have hn8 := q_pw_8 hn
  refine lv_aload_n hx hb dX0_fill_0 rfl (lv_at hl 0 rfl) ?_
  refine va_get (D := (dC, dI)) (ci := 0) (v := .ref ma) (C := RX0) (T := TX0) (N := 4) hx hb hts hin_X0_fill_X0 hown hK hP 0 rfl rfl 0 (by decide) (hts (.fieldLink RX0 7 "StepMap$Table" "marks" "[I") (by decide +kernel)) (fun _ h9 => h9) rfl dX0_fill_1 ?_
  refine lv_iload_n hx hb dX0_fill_4 rfl (lv_at hl 1 rfl) ?_
  refine lv_iconst (v := 2) hx hb dX0_fill_5 (by decide) ?_
  refine r_st (i := a) hx hb hK hP hD hS 1 0 rfl rfl (by omega) (by omega) dX0_fill_6 (fun H locs hP hD hS => ?_)
  have hP : va_P (dC, dI) vwCl [(ta, .inr (0, [.ref ma, .ref ka, .ref va, .int (nI n)])), (ma, .inl (cI, L, .inl (upd M a 2))), (ka, .inl (cI, L, .inl K)), (va, .inl (cI, L, .inl V))] H := hP
  have hD : va_D Aq [(ta, .inr (0, [.ref ma, .ref ka, .ref va, .int (nI n)])), (ma, .inl (cI, L, .inl (upd M a 2))), (ka, .inl (cI, L, .inl K)), (va, .inl (cI, L, .inl V))] := hD
  refine lv_aload_n hx hb dX0_fill_7 rfl (lv_at hl 0 rfl) ?_
  refine va_get (D := (dC, dI)) (ci := 0) (v := .ref ka) (C := RX0) (T := TX0) (N := 4) hx hb hts hin_X0_fill_X0 hown hK hP 0 rfl rfl 1 (by decide) (hts (.fieldLink RX0 13 "StepMap$Table" "keys" "[I") (by decide +kernel)) (fun _ h9 => h9) rfl dX0_fill_8 ?_
  refine lv_iload_n hx hb dX0_fill_11 rfl (lv_at hl 1 rfl) ?_
  refine lv_iload_n hx hb dX0_fill_12 rfl (lv_at hl 2 rfl) ?_
  refine r_st (i := a) hx hb hK hP hD hS 2 0 rfl rfl (by omega) (by omega) dX0_fill_13 (fun H locs hP hD hS => ?_)
  have hP : va_P (dC, dI) vwCl [(ta, .inr (0, [.ref ma, .ref ka, .ref va, .int (nI n)])), (ma, .inl (cI, L, .inl (upd M a 2))), (ka, .inl (cI, L, .inl (upd K a k))), (va, .inl (cI, L, .inl V))] H := hP
  have hD : va_D Aq [(ta, .inr (0, [.ref ma, .ref ka, .ref va, .int (nI n)])), (ma, .inl (cI, L, .inl (upd M a 2))), (ka, .inl (cI, L, .inl (upd K a k))), (va, .inl (cI, L, .inl V))] := hD
  refine lv_aload_n hx hb dX0_fill_14 rfl (lv_at hl 0 rfl) ?_
  refine va_get (D := (dC, dI)) (ci := 0) (v := .ref va) (C := RX0) (T := TX0) (N := 4) hx hb hts hin_X0_fill_X0 hown hK hP 0 rfl rfl 2 (by decide) (hts (.fieldLink RX0 16 "StepMap$Table" "values" "[I") (by decide +kernel)) (fun _ h9 => h9) rfl dX0_fill_15 ?_
  refine lv_iload_n hx hb dX0_fill_18 rfl (lv_at hl 1 rfl) ?_
  refine lv_iload_n hx hb dX0_fill_19 rfl (lv_at hl 3 rfl) ?_
  refine r_st (i := a) hx hb hK hP hD hS 3 0 rfl rfl (by omega) (by omega) dX0_fill_20 (fun H locs hP hD hS => ?_)
  have hP : va_P (dC, dI) vwCl [(ta, .inr (0, [.ref ma, .ref ka, .ref va, .int (nI n)])), (ma, .inl (cI, L, .inl (upd M a 2))), (ka, .inl (cI, L, .inl (upd K a k))), (va, .inl (cI, L, .inl (upd V a v)))] H := hP
  have hD : va_D Aq [(ta, .inr (0, [.ref ma, .ref ka, .ref va, .int (nI n)])), (ma, .inl (cI, L, .inl (upd M a 2))), (ka, .inl (cI, L, .inl (upd K a k))), (va, .inl (cI, L, .inl (upd V a v)))] := hD
  exact W.vret hx hb hr (fun t ht hW => ⟨⟨(), rfl, trivial, by rw [ht]; exact hP, va_K.moved hW.alike hK, hD⟩, hS.F ht⟩) hS.2.2 dX0_fill_21
set_option maxHeartbeats 4000000 in
set_option maxRecDepth 100000 in
theorem c_X0_shift (l : Launch) (dC : Nat → ClassId) (dI : Nat → Nat → Nat) (cI : ClassId) (ta ma ka va L n : Nat) (M K V : Nat → Int32) (a b : Nat) (sz : Nat) (hn : q_pw n) (hnL : n ≤ L) (hL : L ≤ 1024) (ha : a < n) (hb2 : b < n) : Met l yX0_shift wsX0_shift ({ frames := 1, cells := 0, slots := 0, locals := 23 }) (r_Mc (dC, dI) vwCl [(cI, .int)] [(ta, .inr (0, [.ref ma, .ref ka, .ref va, .int (nI n)])), (ma, .inl (cI, L, .inl M)), (ka, .inl (cI, L, .inl K)), (va, .inl (cI, L, .inl V))] sz [.ref ta, .int (nI a), .int (nI b)]) (va_Qv (fun (_ : Unit) => True) (fun u t => r_B (dC, dI) vwCl [(cI, .int)] (va_A [(ta, .inr (0, [.ref ma, .ref ka, .ref va, .int (nI n)])), (ma, .inl (cI, L, .inl M)), (ka, .inl (cI, L, .inl K)), (va, .inl (cI, L, .inl V))] sz) ((fun _ => [(ta, .inr (0, [.ref ma, .ref ka, .ref va, .int (nI n)])), (ma, .inl (cI, L, .inl (upd (upd M b 2) a 0))), (ka, .inl (cI, L, .inl (upd K b (K a)))), (va, .inl (cI, L, .inl (upd V b (V a))))]) u) t) (va_A [(ta, .inr (0, [.ref ma, .ref ka, .ref va, .int (nI n)])), (ma, .inl (cI, L, .inl M)), (ka, .inl (cI, L, .inl K)), (va, .inl (cI, L, .inl V))] sz)) 0 0 (va_A [(ta, .inr (0, [.ref ma, .ref ka, .ref va, .int (nI n)])), (ma, .inl (cI, L, .inl M)), (ka, .inl (cI, L, .inl K)), (va, .inl (cI, L, .inl V))] sz) := by
  refine Met.ofW (cc := cX0_shift) (maxL := 3) (ret := none) (by decide) rfl ?_
  intro p e s m args below meth c s₁ Bd hml hv
  obtain ⟨rfl, hsz, hP, hK, hD0⟩ := hv
  have hx := Bd.exec
  have hb := Bd.bytes
  have hr := Bd.returns
  have hts := atoms_spec (ws := wsX0_shift) Bd.pre
  have hown : s.vm.findClass RX0 = some m.cls := findClass_of_methodNamed Bd.named
  have hlocks := Bd.notSynchronized
  have S0 : CallFix p m c cX0_shift 3 s _ wsX0_shift RX0 := ⟨hx, hb, hml, hown, hts⟩
  subst hsz
  have hD := hD0.self (sz := s.heap.size)
  generalize hAe : va_A [(ta, .inr (0, [.ref ma, .ref ka, .ref va, .int (nI n)])), (ma, .inl (cI, L, .inl M)), (ka, .inl (cI, L, .inl K)), (va, .inl (cI, L, .inl V))] s.heap.size = Aq at hD ⊢
  have hA : ∀ q : Nat, s.heap.size ≤ q → Aq q := fun q h => by rw [← hAe]; exact Or.inr h
  have hS : va_S Aq s.heap s.heap [] := va_S.rf
  have hD : va_D Aq [(ta, .inr (0, [.ref ma, .ref ka, .ref va, .int (nI n)])), (ma, .inl (cI, L, .inl M)), (ka, .inl (cI, L, .inl K)), (va, .inl (cI, L, .inl V))] := hD
  have hP : va_P (dC, dI) vwCl [(ta, .inr (0, [.ref ma, .ref ka, .ref va, .int (nI n)])), (ma, .inl (cI, L, .inl M)), (ka, .inl (cI, L, .inl K)), (va, .inl (cI, L, .inl V))] s.heap := hP
  have hl := lv_entry ([.ref ta, .int (nI a), .int (nI b)]) (n := 3) (Nat.le_of_ble_eq_true rfl)
  rw [lg_entry_eq]
  generalize (lg_sl ([.ref ta, .int (nI a), .int (nI b)]) ++ List.replicate (3 - (lg_sl ([.ref ta, .int (nI a), .int (nI b)])).length) Slot.unset).toArray = ls at hl ⊢
  have hl : lv_has ls 3 [(0, .ref ta), (1, .int (nI a)), (2, .int (nI b))] := hl
  have hn8 := q_pw_8 hn
  refine lv_aload_n hx hb dX0_shift_0 rfl (lv_at hl 0 rfl) ?_
  refine lv_iload_n hx hb dX0_shift_1 rfl (lv_at hl 2 rfl) ?_
  refine lv_aload_n hx hb dX0_shift_2 rfl (lv_at hl 0 rfl) ?_
  refine va_get (D := (dC, dI)) (ci := 0) (v := .ref ka) (C := RX0) (T := TX0) (N := 4) hx hb hts hin_X0_shift_X0 hown hK hP 0 rfl rfl 1 (by decide) (hts (.fieldLink RX0 13 "StepMap$Table" "keys" "[I") (by decide +kernel)) (fun _ h9 => h9) rfl dX0_shift_3 ?_
  refine lv_iload_n hx hb dX0_shift_6 rfl (lv_at hl 1 rfl) ?_
  refine r_ld (i := a) hx hb hK hP 2 0 rfl rfl (by omega) (by omega) dX0_shift_7 ?_
  refine lv_aload_n hx hb dX0_shift_8 rfl (lv_at hl 0 rfl) ?_
  refine va_get (D := (dC, dI)) (ci := 0) (v := .ref va) (C := RX0) (T := TX0) (N := 4) hx hb hts hin_X0_shift_X0 hown hK hP 0 rfl rfl 2 (by decide) (hts (.fieldLink RX0 16 "StepMap$Table" "values" "[I") (by decide +kernel)) (fun _ h9 => h9) rfl dX0_shift_9 ?_
  refine lv_iload_n hx hb dX0_shift_12 rfl (lv_at hl 1 rfl) ?_
  refine r_ld (i := a) hx hb hK hP 3 0 rfl rfl (by omega) (by omega) dX0_shift_13 ?_
  refine r_muV (wr := []) (rest := []) S0 (c_X0_fill l dC dI cI ta ma ka va L n M K V b (K a) (V a) s.heap.size (by assumption) (by omega) (by omega) (by omega)) (cwV 3 hts gX0_shift_X0_fill rfl rfl rfl (by decide +kernel) ⟨Nat.le_of_ble_eq_true rfl, Nat.le_of_ble_eq_true rfl⟩) hK hP hD hS hA [0, 1, 2, 3] [] rfl rfl (by decide) (by decide) (by decide) (ci := 0) (q0 := 0) rfl rfl rfl rfl hl.1 rfl (Nat.le_of_ble_eq_true rfl) dX0_shift_14 ⟨Nat.zero_le _, Nat.zero_le _⟩ (fun _ H locs hu hP hD hS => ?_)
  have hP : va_P (dC, dI) vwCl [(ta, .inr (0, [.ref ma, .ref ka, .ref va, .int (nI n)])), (ma, .inl (cI, L, .inl (upd M b 2))), (ka, .inl (cI, L, .inl (upd K b (K a)))), (va, .inl (cI, L, .inl (upd V b (V a))))] H := hP.sub [0, 1, 2, 3] rfl
  have hD : va_D Aq [(ta, .inr (0, [.ref ma, .ref ka, .ref va, .int (nI n)])), (ma, .inl (cI, L, .inl (upd M b 2))), (ka, .inl (cI, L, .inl (upd K b (K a)))), (va, .inl (cI, L, .inl (upd V b (V a))))] := hD.sub [0, 1, 2, 3] (by decide) rfl
  refine lv_aload_n hx hb dX0_shift_17 rfl (lv_at hl 0 rfl) ?_
  refine va_get (D := (dC, dI)) (ci := 0) (v := .ref ma) (C := RX0) (T := TX0) (N := 4) hx hb hts hin_X0_shift_X0 hown hK hP 0 rfl rfl 0 (by decide) (hts (.fieldLink RX0 7 "StepMap$Table" "marks" "[I") (by decide +kernel)) (fun _ h9 => h9) rfl dX0_shift_18 ?_
  refine lv_iload_n hx hb dX0_shift_21 rfl (lv_at hl 1 rfl) ?_
  refine lv_iconst (v := 0) hx hb dX0_shift_22 (by decide) ?_
  refine r_st (i := a) hx hb hK hP hD hS 1 0 rfl rfl (by omega) (by omega) dX0_shift_23 (fun H locs hP hD hS => ?_)
  have hP : va_P (dC, dI) vwCl [(ta, .inr (0, [.ref ma, .ref ka, .ref va, .int (nI n)])), (ma, .inl (cI, L, .inl (upd (upd M b 2) a 0))), (ka, .inl (cI, L, .inl (upd K b (K a)))), (va, .inl (cI, L, .inl (upd V b (V a))))] H := hP
  have hD : va_D Aq [(ta, .inr (0, [.ref ma, .ref ka, .ref va, .int (nI n)])), (ma, .inl (cI, L, .inl (upd (upd M b 2) a 0))), (ka, .inl (cI, L, .inl (upd K b (K a)))), (va, .inl (cI, L, .inl (upd V b (V a))))] := hD
  exact W.vret hx hb hr (fun t ht hW => ⟨⟨(), rfl, trivial, by rw [ht]; exact hP, va_K.moved hW.alike hK, hD⟩, hS.F ht⟩) hS.2.2 dX0_shift_24
set_option maxHeartbeats 4000000 in
set_option maxRecDepth 100000 in
theorem lp_X0_clear {p : Program} {l : Launch} {e : Env} {s : State} {m : MethodId} {args : Array Value} {below : List Frame} {meth : Method} {c : Code} {Q : State → Prop} {dC : Nat → ClassId} {dI : Nat → Nat → Nat} {cI : ClassId} {Aq : Nat → Prop} {H0 : Heap} (S0 : CallFix p m c cX0_clear 3 s args wsX0_clear RX0) (hK : va_K (dC, dI) vwCl [(cI, .int)] s) (hA : ∀ q : Nat, H0.size ≤ q → Aq q) (ta ma ka va L q : Nat) (M K V : Nat → Int32) (hq : q ≤ L) (hL : L ≤ 1024)
    (kk : ∀ (H : Heap) (locs : List Loc) (ls : Array Slot), va_P (dC, dI) vwCl [(ta, .inr (0, [.ref ma, .ref ka, .ref va, .int (nI q)])), (ma, .inl (cI, L, .inl (q_cl M q))), (ka, .inl (cI, L, .inl K)), (va, .inl (cI, L, .inl V))] H → va_D Aq [(ta, .inr (0, [.ref ma, .ref ka, .ref va, .int (nI q)])), (ma, .inl (cI, L, .inl (q_cl M q))), (ka, .inl (cI, L, .inl K)), (va, .inl (cI, L, .inl V))] → va_S Aq H0 H locs → lv_has ls 3 [(0, .ref ta), (1, .int (nI q)), (2, .int (nI q))] → W p l e ({ frames := 1, cells := 0, slots := 0, locals := 21 }) s m args below meth c H locs 0 0 Q (F0 m 36 ls [])) :
    ∀ (f : Nat) (i : Nat), i + f = q → ∀ (H : Heap) (locs : List Loc) (ls : Array Slot), va_P (dC, dI) vwCl [(ta, .inr (0, [.ref ma, .ref ka, .ref va, .int (nI q)])), (ma, .inl (cI, L, .inl (q_cl M i))), (ka, .inl (cI, L, .inl K)), (va, .inl (cI, L, .inl V))] H → va_D Aq [(ta, .inr (0, [.ref ma, .ref ka, .ref va, .int (nI q)])), (ma, .inl (cI, L, .inl (q_cl M i))), (ka, .inl (cI, L, .inl K)), (va, .inl (cI, L, .inl V))] → va_S Aq H0 H locs → lv_has ls 3 [(0, .ref ta), (1, .int (nI q)), (2, .int (nI i))] → W p l e ({ frames := 1, cells := 0, slots := 0, locals := 21 }) s m args below meth c H locs 0 0 Q (F0 m 15 ls []) := by
  obtain ⟨hx, hb, hml, hown, hts⟩ := id S0
  intro f
  induction f with
  | zero =>
    intro i hi H locs ls hP hD hS hl
    refine lv_iload_n hx hb dX0_clear_15 rfl (lv_at hl 2 rfl) ?_
    refine lv_aload_n hx hb dX0_clear_16 rfl (lv_at hl 0 rfl) ?_
    refine va_get (D := (dC, dI)) (ci := 0) (v := .int (nI q)) (C := RX0) (T := TX0) (N := 4) hx hb hts hin_X0_clear_X0 hown hK hP 0 rfl rfl 3 (by decide) (hts (.fieldLink RX0 19 "StepMap$Table" "slots" "I") (by decide +kernel)) (fun _ h9 => h9) rfl dX0_clear_17 ?_
    refine lv_icmp_ge (tgt := 36) hx hb dX0_clear_20 (by decide) (fun c_20 => ?_) (fun c_20 => ?_)
    · have h_20 := q_le_t (a := q) (b := i) (by omega) (by omega) c_20
      have ei : i = q := by omega
      subst ei
      exact kk H locs ls hP hD hS hl
    · have h_20 := q_le_f (a := q) (b := i) (by omega) (by omega) c_20
      omega
  | succ f ih =>
    intro i hi H locs ls hP hD hS hl
    refine lv_iload_n hx hb dX0_clear_15 rfl (lv_at hl 2 rfl) ?_
    refine lv_aload_n hx hb dX0_clear_16 rfl (lv_at hl 0 rfl) ?_
    refine va_get (D := (dC, dI)) (ci := 0) (v := .int (nI q)) (C := RX0) (T := TX0) (N := 4) hx hb hts hin_X0_clear_X0 hown hK hP 0 rfl rfl 3 (by decide) (hts (.fieldLink RX0 19 "StepMap$Table" "slots" "I") (by decide +kernel)) (fun _ h9 => h9) rfl dX0_clear_17 ?_
    refine lv_icmp_ge (tgt := 36) hx hb dX0_clear_20 (by decide) (fun c_20 => ?_) (fun c_20 => ?_)
    · have h_20 := q_le_t (a := q) (b := i) (by omega) (by omega) c_20
      omega
    · have h_20 := q_le_f (a := q) (b := i) (by omega) (by omega) c_20
      refine lv_aload_n hx hb dX0_clear_23 rfl (lv_at hl 0 rfl) ?_
      refine va_get (D := (dC, dI)) (ci := 0) (v := .ref ma) (C := RX0) (T := TX0) (N := 4) hx hb hts hin_X0_clear_X0 hown hK hP 0 rfl rfl 0 (by decide) (hts (.fieldLink RX0 7 "StepMap$Table" "marks" "[I") (by decide +kernel)) (fun _ h9 => h9) rfl dX0_clear_24 ?_
      refine lv_iload_n hx hb dX0_clear_27 rfl (lv_at hl 2 rfl) ?_
      refine lv_iconst (v := 0) hx hb dX0_clear_28 (by decide) ?_
      refine r_st (i := i) hx hb hK hP hD hS 1 0 rfl rfl (by omega) (by omega) dX0_clear_29 (fun H locs hP hD hS => ?_)
      have hP : va_P (dC, dI) vwCl [(ta, .inr (0, [.ref ma, .ref ka, .ref va, .int (nI q)])), (ma, .inl (cI, L, .inl (upd (q_cl M i) i 0))), (ka, .inl (cI, L, .inl K)), (va, .inl (cI, L, .inl V))] H := hP
      have hD : va_D Aq [(ta, .inr (0, [.ref ma, .ref ka, .ref va, .int (nI q)])), (ma, .inl (cI, L, .inl (upd (q_cl M i) i 0))), (ka, .inl (cI, L, .inl K)), (va, .inl (cI, L, .inl V))] := hD
      refine lv_iinc (v := nI (i + 1)) (lv' := [(2, .int (nI (i + 1))), (0, .ref ta), (1, .int (nI q))]) hx hb dX0_clear_30 hl (k := 2) rfl (nI_1 _) (by decide) rfl (fun ls hl => ?_)
      refine lv_goto (tgt := 15) hx hb dX0_clear_33 (by decide) ?_
      have hP : va_P (dC, dI) vwCl [(ta, .inr (0, [.ref ma, .ref ka, .ref va, .int (nI q)])), (ma, .inl (cI, L, .inl (q_cl M (i + 1)))), (ka, .inl (cI, L, .inl K)), (va, .inl (cI, L, .inl V))] H := by rw [← q_cl_s]; exact hP
      have hD : va_D Aq [(ta, .inr (0, [.ref ma, .ref ka, .ref va, .int (nI q)])), (ma, .inl (cI, L, .inl (q_cl M (i + 1)))), (ka, .inl (cI, L, .inl K)), (va, .inl (cI, L, .inl V))] := by rw [← q_cl_s]; exact hD
      exact ih (i + 1) (by omega) H locs ls hP hD hS (lv_sub hl [1, 2, 0] rfl)
set_option maxHeartbeats 4000000 in
set_option maxRecDepth 100000 in
theorem c_X0_clear (l : Launch) (dC : Nat → ClassId) (dI : Nat → Nat → Nat) (cI : ClassId) (ta ma ka va L n : Nat) (M K V : Nat → Int32) (q : Nat) (sz : Nat) (hn : q_pw n) (hnL : n ≤ L) (hL : L ≤ 1024) (hq : q ≤ L) : Met l yX0_clear wsX0_clear ({ frames := 1, cells := 0, slots := 0, locals := 21 }) (r_Mc (dC, dI) vwCl [(cI, .int)] [(ta, .inr (0, [.ref ma, .ref ka, .ref va, .int (nI n)])), (ma, .inl (cI, L, .inl M)), (ka, .inl (cI, L, .inl K)), (va, .inl (cI, L, .inl V))] sz [.ref ta, .int (nI q)]) (va_Qv (fun (_ : Unit) => True) (fun u t => r_B (dC, dI) vwCl [(cI, .int)] (va_A [(ta, .inr (0, [.ref ma, .ref ka, .ref va, .int (nI n)])), (ma, .inl (cI, L, .inl M)), (ka, .inl (cI, L, .inl K)), (va, .inl (cI, L, .inl V))] sz) ((fun _ => [(ta, .inr (0, [.ref ma, .ref ka, .ref va, .int (nI q)])), (ma, .inl (cI, L, .inl (q_cl M q))), (ka, .inl (cI, L, .inl K)), (va, .inl (cI, L, .inl V))]) u) t) (va_A [(ta, .inr (0, [.ref ma, .ref ka, .ref va, .int (nI n)])), (ma, .inl (cI, L, .inl M)), (ka, .inl (cI, L, .inl K)), (va, .inl (cI, L, .inl V))] sz)) 0 0 (va_A [(ta, .inr (0, [.ref ma, .ref ka, .ref va, .int (nI n)])), (ma, .inl (cI, L, .inl M)), (ka, .inl (cI, L, .inl K)), (va, .inl (cI, L, .inl V))] sz) := by
  refine Met.ofW (cc := cX0_clear) (maxL := 3) (ret := none) (by decide) rfl ?_
  intro p e s m args below meth c s₁ Bd hml hv
  obtain ⟨rfl, hsz, hP, hK, hD0⟩ := hv
  have hx := Bd.exec
  have hb := Bd.bytes
  have hr := Bd.returns
  have hts := atoms_spec (ws := wsX0_clear) Bd.pre
  have hown : s.vm.findClass RX0 = some m.cls := findClass_of_methodNamed Bd.named
  have hlocks := Bd.notSynchronized
  have S0 : CallFix p m c cX0_clear 3 s _ wsX0_clear RX0 := ⟨hx, hb, hml, hown, hts⟩
  subst hsz
  have hD := hD0.self (sz := s.heap.size)
  generalize hAe : va_A [(ta, .inr (0, [.ref ma, .ref ka, .ref va, .int (nI n)])), (ma, .inl (cI, L, .inl M)), (ka, .inl (cI, L, .inl K)), (va, .inl (cI, L, .inl V))] s.heap.size = Aq at hD ⊢
  have hA : ∀ q : Nat, s.heap.size ≤ q → Aq q := fun q h => by rw [← hAe]; exact Or.inr h
  have hS : va_S Aq s.heap s.heap [] := va_S.rf
  have hD : va_D Aq [(ta, .inr (0, [.ref ma, .ref ka, .ref va, .int (nI n)])), (ma, .inl (cI, L, .inl M)), (ka, .inl (cI, L, .inl K)), (va, .inl (cI, L, .inl V))] := hD
  have hP : va_P (dC, dI) vwCl [(ta, .inr (0, [.ref ma, .ref ka, .ref va, .int (nI n)])), (ma, .inl (cI, L, .inl M)), (ka, .inl (cI, L, .inl K)), (va, .inl (cI, L, .inl V))] s.heap := hP
  have hl := lv_entry ([.ref ta, .int (nI q)]) (n := 3) (Nat.le_of_ble_eq_true rfl)
  rw [lg_entry_eq]
  generalize (lg_sl ([.ref ta, .int (nI q)]) ++ List.replicate (3 - (lg_sl ([.ref ta, .int (nI q)])).length) Slot.unset).toArray = ls at hl ⊢
  have hl : lv_has ls 3 [(0, .ref ta), (1, .int (nI q))] := hl
  have hn8 := q_pw_8 hn
  refine lv_aload_n hx hb dX0_clear_0 rfl (lv_at hl 0 rfl) ?_
  refine lv_iload_n hx hb dX0_clear_1 rfl (lv_at hl 1 rfl) ?_
  refine lv_aload_n hx hb dX0_clear_2 rfl (lv_at hl 0 rfl) ?_
  refine va_get (D := (dC, dI)) (ci := 0) (v := .ref ma) (C := RX0) (T := TX0) (N := 4) hx hb hts hin_X0_clear_X0 hown hK hP 0 rfl rfl 0 (by decide) (hts (.fieldLink RX0 7 "StepMap$Table" "marks" "[I") (by decide +kernel)) (fun _ h9 => h9) rfl dX0_clear_3 ?_
  refine va_alen (v := nI L) hx hb hK hP 1 0 rfl rfl rfl dX0_clear_6 ?_
  refine va_mmin hx hb (by rw [hml]; exact hl.1.symm) hown (hts (.methodLink RX0 23 Lib.Math.min.name) (by decide +kernel)) (hts (.static Lib.Math.min.name) (by decide +kernel)) (hts (.initialized "java/lang/Math") (by decide +kernel)) (hts (.code Lib.Math.min.name Lib.Math.min.code 2 (some .int)) (by decide +kernel)) (Nat.le_of_ble_eq_true rfl) (Nat.le_of_ble_eq_true rfl) (Nat.zero_le _) (Nat.zero_le _) dX0_clear_7 ?_
  refine r_eq (z := nI q) (if_neg (nI_nlt hq (by omega))) ?_
  refine va_put (D := (dC, dI)) (ci := 0) (v := .int (nI q)) (ty := .int) (C := RX0) (T := TX0) (N := 4) hx hb hts hin_X0_clear_X0 tyX0 tyX0_ok nmX0 hown hK hP hD hS 0 rfl rfl 3 (by decide) (hts (.fieldLink RX0 19 "StepMap$Table" "slots" "I") (by decide +kernel)) (fun _ h9 => h9) rfl (by decide +kernel) (rfl) (rfl) (Nat.le_of_ble_eq_true rfl) dX0_clear_10 (fun H locs hP hD hS => ?_)
  have hP : va_P (dC, dI) vwCl [(ta, .inr (0, [.ref ma, .ref ka, .ref va, .int (nI q)])), (ma, .inl (cI, L, .inl M)), (ka, .inl (cI, L, .inl K)), (va, .inl (cI, L, .inl V))] H := hP
  have hD : va_D Aq [(ta, .inr (0, [.ref ma, .ref ka, .ref va, .int (nI q)])), (ma, .inl (cI, L, .inl M)), (ka, .inl (cI, L, .inl K)), (va, .inl (cI, L, .inl V))] := hD
  refine lv_iconst (v := 0) hx hb dX0_clear_13 (by decide) ?_
  refine lv_istore_n (lv' := [(2, .int 0), (0, .ref ta), (1, .int (nI q))]) hx hb dX0_clear_14 rfl hl (by decide) rfl (fun ls hl => ?_)
  have hP : va_P (dC, dI) vwCl [(ta, .inr (0, [.ref ma, .ref ka, .ref va, .int (nI q)])), (ma, .inl (cI, L, .inl (q_cl M 0))), (ka, .inl (cI, L, .inl K)), (va, .inl (cI, L, .inl V))] H := by rw [q_cl_0]; exact hP
  have hD : va_D Aq [(ta, .inr (0, [.ref ma, .ref ka, .ref va, .int (nI q)])), (ma, .inl (cI, L, .inl (q_cl M 0))), (ka, .inl (cI, L, .inl K)), (va, .inl (cI, L, .inl V))] := by rw [q_cl_0]; exact hD
  refine lp_X0_clear S0 hK hA ta ma ka va L q M K V hq hL (fun H locs ls hP hD hS hl => ?_) q 0 (by omega) H locs ls hP hD hS (lv_sub hl [1, 2, 0] rfl)
  exact W.vret hx hb hr (fun t ht hW => ⟨⟨(), rfl, trivial, by rw [ht]; exact hP, va_K.moved hW.alike hK, hD⟩, hS.F ht⟩) hS.2.2 dX0_clear_36
