/-! MAP: lookups and what only reads (laid by gen_map.py) -/
theorem hin_X1_capacity_X1 : ∀ w ∈ wsX10, w ∈ wsX1_capacity := by decide +kernel
theorem hin_X1_capacity_X0 : ∀ w ∈ wsX00, w ∈ wsX1_capacity := by decide +kernel
theorem hin_X1_isCrowdedBy_X1 : ∀ w ∈ wsX10, w ∈ wsX1_isCrowdedBy := by decide +kernel
theorem hin_X1_isCrowdedBy_X0 : ∀ w ∈ wsX00, w ∈ wsX1_isCrowdedBy := by decide +kernel
theorem hin_X1_isSparse_X1 : ∀ w ∈ wsX10, w ∈ wsX1_isSparse := by decide +kernel
theorem hin_X1_isSparse_X0 : ∀ w ∈ wsX00, w ∈ wsX1_isSparse := by decide +kernel
theorem hin_X1_wouldOutgrowHalf_X1 : ∀ w ∈ wsX10, w ∈ wsX1_wouldOutgrowHalf := by decide +kernel
theorem hin_X1_wouldOutgrowHalf_X0 : ∀ w ∈ wsX00, w ∈ wsX1_wouldOutgrowHalf := by decide +kernel
theorem hin_X1_lookFor_X1 : ∀ w ∈ wsX10, w ∈ wsX1_lookFor := by decide +kernel
theorem hin_X1_lookFor_X0 : ∀ w ∈ wsX00, w ∈ wsX1_lookFor := by decide +kernel
theorem hin_X1_lookUp_X1 : ∀ w ∈ wsX10, w ∈ wsX1_lookUp := by decide +kernel
theorem hin_X1_lookUp_X0 : ∀ w ∈ wsX00, w ∈ wsX1_lookUp := by decide +kernel
theorem hin_X1_migrating_X1 : ∀ w ∈ wsX10, w ∈ wsX1_migrating := by decide +kernel
theorem hin_X1_size_X1 : ∀ w ∈ wsX10, w ∈ wsX1_size := by decide +kernel
theorem hin_X1_lastWork_X1 : ∀ w ∈ wsX10, w ∈ wsX1_lastWork := by decide +kernel
theorem hin_X1_cursor_X1 : ∀ w ∈ wsX10, w ∈ wsX1_cursor := by decide +kernel
/-- the greatest power of two not above h, from p on, at most f doublings -/
def q_hf : Nat → Int32 → Nat → Nat
  | 0, _, p => p
  | f + 1, h, p => if nI (p * 2) ≤ h then q_hf f h (p * 2) else p
def q_half (h : Int32) : Nat := q_hf 7 h 8
def q_HI (f p : Nat) : Prop := (f = 0 ∧ p = 1024) ∨ (f = 1 ∧ p = 512) ∨ (f = 2 ∧ p = 256) ∨ (f = 3 ∧ p = 128) ∨ (f = 4 ∧ p = 64) ∨ (f = 5 ∧ p = 32) ∨ (f = 6 ∧ p = 16) ∨ (f = 7 ∧ p = 8)
theorem q_HI_s {f p : Nat} (h : q_HI (f + 1) p) : q_HI f (p * 2) := by unfold q_HI at h ⊢; omega
theorem q_HI_b {f p : Nat} (h : q_HI f p) : 8 ≤ p ∧ p ≤ 1024 := by unfold q_HI at h; omega
theorem q_HI_1 {f p : Nat} (h : q_HI (f + 1) p) : p < 1024 := by unfold q_HI at h; omega
theorem q_HI_0 {p : Nat} (h : q_HI 0 p) : p = 1024 := by unfold q_HI at h; omega
theorem q_hf_1 {f p : Nat} {h : Int32} (c : nI (p * 2) ≤ h) : q_hf (f + 1) h p = q_hf f h (p * 2) := if_pos c
theorem q_hf_0 {f p : Nat} {h : Int32} (c : ¬ nI (p * 2) ≤ h) : q_hf (f + 1) h p = p := if_neg c
theorem q_hf_pw {h : Int32} : ∀ (f p : Nat), q_HI f p → q_pw (q_hf f h p) := by
  intro f
  induction f with
  | zero => intro p hp; exact q_pw_of (show p = 8 ∨ p = 16 ∨ p = 32 ∨ p = 64 ∨ p = 128 ∨ p = 256 ∨ p = 512 ∨ p = 1024 by unfold q_HI at hp; omega)
  | succ f ih =>
    intro p hp
    by_cases c : nI (p * 2) ≤ h
    · rw [q_hf_1 c]; exact ih _ (q_HI_s hp)
    · rw [q_hf_0 c]; exact q_pw_of (by unfold q_HI at hp; omega)
theorem q_half_pw (h : Int32) : q_pw (q_half h) := q_hf_pw 7 8 (by unfold q_HI; omega)
theorem q_mig {nx : Option Nat} (hc : ∀ c, nx = some c → c < 2 ^ 31) : ¬ q_nx nx = -1 ↔ nx.isSome = true := ⟨fun z => Classical.byContradiction fun y => z ((q_nx_m1 hc).mpr y), fun z y => (q_nx_m1 hc).mp y z⟩
set_option maxHeartbeats 4000000 in
set_option maxRecDepth 100000 in
theorem c_X1_migrating (l : Launch) (dC : Nat → ClassId) (dI : Nat → Nat → Nat) (cI : ClassId) (h0 : Nat) (x0 : Int32) (t1 t2 : Nat) (nx : Option Nat) (x4 x5 : Int32) (hc : ∀ c, nx = some c → c < 2 ^ 31) : Met l yX1_migrating wsX1_migrating ({ frames := 0, cells := 0, slots := 0, locals := 0 }) (r_Pc (dC, dI) vwCl [(cI, .int)] [(h0, .inr (1, [.int x0, .ref t1, .ref t2, .int (q_nx nx), .int x4, .int x5]))] [.ref h0]) (vp_Si (fun r => r = q_b (nx.isSome = true))) 0 0 (fun _ => False) := by
  refine Met.ofW (cc := cX1_migrating) (maxL := 1) (ret := (some .boolean)) (by decide) rfl ?_
  intro p e s m args below meth c s₁ Bd hml hv
  obtain ⟨rfl, hP, hK⟩ := hv
  have hx := Bd.exec
  have hb := Bd.bytes
  have hr := Bd.returns
  have hts := atoms_spec (ws := wsX1_migrating) Bd.pre
  have hown : s.vm.findClass RX1 = some m.cls := findClass_of_methodNamed Bd.named
  have hlocks := Bd.notSynchronized
  have S0 : CallFix p m c cX1_migrating 1 s _ wsX1_migrating RX1 := ⟨hx, hb, hml, hown, hts⟩
  have hP : va_P (dC, dI) vwCl [(h0, .inr (1, [.int x0, .ref t1, .ref t2, .int (q_nx nx), .int x4, .int x5]))] s.heap := hP
  have hl := lv_entry ([.ref h0]) (n := 1) (Nat.le_of_ble_eq_true rfl)
  rw [lg_entry_eq]
  generalize (lg_sl ([.ref h0]) ++ List.replicate (1 - (lg_sl ([.ref h0])).length) Slot.unset).toArray = ls at hl ⊢
  have hl : lv_has ls 1 [(0, .ref h0)] := hl
  refine lv_aload_n hx hb dX1_migrating_0 rfl (lv_at hl 0 rfl) ?_
  refine va_get (D := (dC, dI)) (ci := 1) (v := .int (q_nx nx)) (C := RX1) (T := TX1) (N := 6) hx hb hts hin_X1_migrating_X1 hown hK hP 0 rfl rfl 3 (by decide) (hts (.fieldLink RX1 32 "StepMap" "nextToMove" "I") (by decide +kernel)) (fun _ h9 => h9) rfl dX1_migrating_1 ?_
  refine lv_iconst (v := -1) hx hb dX1_migrating_4 (by decide) ?_
  refine lv_icmp_eq (tgt := 12) hx hb dX1_migrating_5 (by decide) (fun c_5 => ?_) (fun c_5 => ?_)
  · refine lv_iconst (v := 0) hx hb dX1_migrating_12 (by decide) ?_
    exact W.zret (v := 0) hx hb hr (rfl) (fun t ht hW => ⟨_, rfl, (q_b_f ((q_nx_m1 hc).mp c_5)).symm, ht⟩) (fun _ h => by cases h) dX1_migrating_13
  · refine lv_iconst (v := 1) hx hb dX1_migrating_8 (by decide) ?_
    refine lv_goto (tgt := 13) hx hb dX1_migrating_9 (by decide) ?_
    exact W.zret (v := 1) hx hb hr (rfl) (fun t ht hW => ⟨_, rfl, (q_b_t ((q_mig hc).mp c_5)).symm, ht⟩) (fun _ h => by cases h) dX1_migrating_13
set_option maxHeartbeats 4000000 in
set_option maxRecDepth 100000 in
theorem c_X1_size (l : Launch) (dC : Nat → ClassId) (dI : Nat → Nat → Nat) (cI : ClassId) (h0 t1 t2 : Nat) (x0 x3 x4 x5 : Int32)  : Met l yX1_size wsX1_size ({ frames := 0, cells := 0, slots := 0, locals := 0 }) (r_Pc (dC, dI) vwCl [(cI, .int)] [(h0, .inr (1, [.int x0, .ref t1, .ref t2, .int x3, .int x4, .int x5]))] [.ref h0]) (vp_Si (fun r => r = x4)) 0 0 (fun _ => False) := by
  refine Met.ofW (cc := cX1_size) (maxL := 1) (ret := (some .int)) (by decide) rfl ?_
  intro p e s m args below meth c s₁ Bd hml hv
  obtain ⟨rfl, hP, hK⟩ := hv
  have hx := Bd.exec
  have hb := Bd.bytes
  have hr := Bd.returns
  have hts := atoms_spec (ws := wsX1_size) Bd.pre
  have hown : s.vm.findClass RX1 = some m.cls := findClass_of_methodNamed Bd.named
  have hlocks := Bd.notSynchronized
  have S0 : CallFix p m c cX1_size 1 s _ wsX1_size RX1 := ⟨hx, hb, hml, hown, hts⟩
  have hP : va_P (dC, dI) vwCl [(h0, .inr (1, [.int x0, .ref t1, .ref t2, .int x3, .int x4, .int x5]))] s.heap := hP
  have hl := lv_entry ([.ref h0]) (n := 1) (Nat.le_of_ble_eq_true rfl)
  rw [lg_entry_eq]
  generalize (lg_sl ([.ref h0]) ++ List.replicate (1 - (lg_sl ([.ref h0])).length) Slot.unset).toArray = ls at hl ⊢
  have hl : lv_has ls 1 [(0, .ref h0)] := hl
  refine lv_aload_n hx hb dX1_size_0 rfl (lv_at hl 0 rfl) ?_
  refine va_get (D := (dC, dI)) (ci := 1) (v := .int x4) (C := RX1) (T := TX1) (N := 6) hx hb hts hin_X1_size_X1 hown hK hP 0 rfl rfl 4 (by decide) (hts (.fieldLink RX1 57 "StepMap" "keyCount" "I") (by decide +kernel)) (fun _ h9 => h9) rfl dX1_size_1 ?_
  exact W.iret (v := x4) hx hb hr (fun t ht hW => ⟨_, rfl, rfl, ht⟩) (fun _ h => by cases h) dX1_size_4
set_option maxHeartbeats 4000000 in
set_option maxRecDepth 100000 in
theorem c_X1_lastWork (l : Launch) (dC : Nat → ClassId) (dI : Nat → Nat → Nat) (cI : ClassId) (h0 t1 t2 : Nat) (x0 x3 x4 x5 : Int32)  : Met l yX1_lastWork wsX1_lastWork ({ frames := 0, cells := 0, slots := 0, locals := 0 }) (r_Pc (dC, dI) vwCl [(cI, .int)] [(h0, .inr (1, [.int x0, .ref t1, .ref t2, .int x3, .int x4, .int x5]))] [.ref h0]) (vp_Si (fun r => r = x5)) 0 0 (fun _ => False) := by
  refine Met.ofW (cc := cX1_lastWork) (maxL := 1) (ret := (some .int)) (by decide) rfl ?_
  intro p e s m args below meth c s₁ Bd hml hv
  obtain ⟨rfl, hP, hK⟩ := hv
  have hx := Bd.exec
  have hb := Bd.bytes
  have hr := Bd.returns
  have hts := atoms_spec (ws := wsX1_lastWork) Bd.pre
  have hown : s.vm.findClass RX1 = some m.cls := findClass_of_methodNamed Bd.named
  have hlocks := Bd.notSynchronized
  have S0 : CallFix p m c cX1_lastWork 1 s _ wsX1_lastWork RX1 := ⟨hx, hb, hml, hown, hts⟩
  have hP : va_P (dC, dI) vwCl [(h0, .inr (1, [.int x0, .ref t1, .ref t2, .int x3, .int x4, .int x5]))] s.heap := hP
  have hl := lv_entry ([.ref h0]) (n := 1) (Nat.le_of_ble_eq_true rfl)
  rw [lg_entry_eq]
  generalize (lg_sl ([.ref h0]) ++ List.replicate (1 - (lg_sl ([.ref h0])).length) Slot.unset).toArray = ls at hl ⊢
  have hl : lv_has ls 1 [(0, .ref h0)] := hl
  refine lv_aload_n hx hb dX1_lastWork_0 rfl (lv_at hl 0 rfl) ?_
  refine va_get (D := (dC, dI)) (ci := 1) (v := .int x5) (C := RX1) (T := TX1) (N := 6) hx hb hts hin_X1_lastWork_X1 hown hK hP 0 rfl rfl 5 (by decide) (hts (.fieldLink RX1 35 "StepMap" "work" "I") (by decide +kernel)) (fun _ h9 => h9) rfl dX1_lastWork_1 ?_
  exact W.iret (v := x5) hx hb hr (fun t ht hW => ⟨_, rfl, rfl, ht⟩) (fun _ h => by cases h) dX1_lastWork_4
set_option maxHeartbeats 4000000 in
set_option maxRecDepth 100000 in
theorem c_X1_cursor (l : Launch) (dC : Nat → ClassId) (dI : Nat → Nat → Nat) (cI : ClassId) (h0 t1 t2 : Nat) (x0 x3 x4 x5 : Int32)  : Met l yX1_cursor wsX1_cursor ({ frames := 0, cells := 0, slots := 0, locals := 0 }) (r_Pc (dC, dI) vwCl [(cI, .int)] [(h0, .inr (1, [.int x0, .ref t1, .ref t2, .int x3, .int x4, .int x5]))] [.ref h0]) (vp_Si (fun r => r = x3)) 0 0 (fun _ => False) := by
  refine Met.ofW (cc := cX1_cursor) (maxL := 1) (ret := (some .int)) (by decide) rfl ?_
  intro p e s m args below meth c s₁ Bd hml hv
  obtain ⟨rfl, hP, hK⟩ := hv
  have hx := Bd.exec
  have hb := Bd.bytes
  have hr := Bd.returns
  have hts := atoms_spec (ws := wsX1_cursor) Bd.pre
  have hown : s.vm.findClass RX1 = some m.cls := findClass_of_methodNamed Bd.named
  have hlocks := Bd.notSynchronized
  have S0 : CallFix p m c cX1_cursor 1 s _ wsX1_cursor RX1 := ⟨hx, hb, hml, hown, hts⟩
  have hP : va_P (dC, dI) vwCl [(h0, .inr (1, [.int x0, .ref t1, .ref t2, .int x3, .int x4, .int x5]))] s.heap := hP
  have hl := lv_entry ([.ref h0]) (n := 1) (Nat.le_of_ble_eq_true rfl)
  rw [lg_entry_eq]
  generalize (lg_sl ([.ref h0]) ++ List.replicate (1 - (lg_sl ([.ref h0])).length) Slot.unset).toArray = ls at hl ⊢
  have hl : lv_has ls 1 [(0, .ref h0)] := hl
  refine lv_aload_n hx hb dX1_cursor_0 rfl (lv_at hl 0 rfl) ?_
  refine va_get (D := (dC, dI)) (ci := 1) (v := .int x3) (C := RX1) (T := TX1) (N := 6) hx hb hts hin_X1_cursor_X1 hown hK hP 0 rfl rfl 3 (by decide) (hts (.fieldLink RX1 32 "StepMap" "nextToMove" "I") (by decide +kernel)) (fun _ h9 => h9) rfl dX1_cursor_1 ?_
  exact W.iret (v := x3) hx hb hr (fun t ht hW => ⟨_, rfl, rfl, ht⟩) (fun _ h => by cases h) dX1_cursor_4
set_option maxHeartbeats 4000000 in
set_option maxRecDepth 100000 in
theorem c_X1_capacity (l : Launch) (dC : Nat → ClassId) (dI : Nat → Nat → Nat) (cI : ClassId) (h0 t1 t2 : Nat) (x0 x3 x4 x5 : Int32) (m1 k1 v1 n : Nat)  : Met l yX1_capacity wsX1_capacity ({ frames := 0, cells := 0, slots := 0, locals := 0 }) (r_Pc (dC, dI) vwCl [(cI, .int)] [(h0, .inr (1, [.int x0, .ref t1, .ref t2, .int x3, .int x4, .int x5])), (t1, .inr (0, [.ref m1, .ref k1, .ref v1, .int (nI n)]))] [.ref h0]) (vp_Si (fun r => r = nI n)) 0 0 (fun _ => False) := by
  refine Met.ofW (cc := cX1_capacity) (maxL := 1) (ret := (some .int)) (by decide) rfl ?_
  intro p e s m args below meth c s₁ Bd hml hv
  obtain ⟨rfl, hP, hK⟩ := hv
  have hx := Bd.exec
  have hb := Bd.bytes
  have hr := Bd.returns
  have hts := atoms_spec (ws := wsX1_capacity) Bd.pre
  have hown : s.vm.findClass RX1 = some m.cls := findClass_of_methodNamed Bd.named
  have hlocks := Bd.notSynchronized
  have S0 : CallFix p m c cX1_capacity 1 s _ wsX1_capacity RX1 := ⟨hx, hb, hml, hown, hts⟩
  have hP : va_P (dC, dI) vwCl [(h0, .inr (1, [.int x0, .ref t1, .ref t2, .int x3, .int x4, .int x5])), (t1, .inr (0, [.ref m1, .ref k1, .ref v1, .int (nI n)]))] s.heap := hP
  have hl := lv_entry ([.ref h0]) (n := 1) (Nat.le_of_ble_eq_true rfl)
  rw [lg_entry_eq]
  generalize (lg_sl ([.ref h0]) ++ List.replicate (1 - (lg_sl ([.ref h0])).length) Slot.unset).toArray = ls at hl ⊢
  have hl : lv_has ls 1 [(0, .ref h0)] := hl
  refine lv_aload_n hx hb dX1_capacity_0 rfl (lv_at hl 0 rfl) ?_
  refine va_get (D := (dC, dI)) (ci := 1) (v := .ref t1) (C := RX1) (T := TX1) (N := 6) hx hb hts hin_X1_capacity_X1 hown hK hP 0 rfl rfl 1 (by decide) (hts (.fieldLink RX1 22 "StepMap" "newTable" "LStepMap$Table;") (by decide +kernel)) (fun _ h9 => h9) rfl dX1_capacity_1 ?_
  refine va_get (D := (dC, dI)) (ci := 0) (v := .int (nI n)) (C := RX0) (T := TX0) (N := 4) hx hb hts hin_X1_capacity_X0 hown hK hP 1 rfl rfl 3 (by decide) (hts (.fieldLink RX1 69 "StepMap$Table" "slots" "I") (by decide +kernel)) (fun _ h9 => h9) rfl dX1_capacity_4 ?_
  exact W.iret (v := nI n) hx hb hr (fun t ht hW => ⟨_, rfl, rfl, ht⟩) (fun _ h => by cases h) dX1_capacity_7
set_option maxHeartbeats 4000000 in
set_option maxRecDepth 100000 in
theorem c_X1_isCrowdedBy (l : Launch) (dC : Nat → ClassId) (dI : Nat → Nat → Nat) (cI : ClassId) (h0 t1 : Nat) (x0 : Int32) (t2 : Nat) (x3 x4 x5 : Int32) (m1 k1 v1 n q : Nat) (hn : n ≤ 4096) (hq : q ≤ 8192) : Met l yX1_isCrowdedBy wsX1_isCrowdedBy ({ frames := 0, cells := 0, slots := 0, locals := 0 }) (r_Pc (dC, dI) vwCl [(cI, .int)] [(h0, .inr (1, [.int x0, .ref t1, .ref t2, .int x3, .int x4, .int x5])), (t1, .inr (0, [.ref m1, .ref k1, .ref v1, .int (nI n)]))] [.ref h0, .int (nI q)]) (vp_Si (fun r => r = q_b (3 * n ≤ 4 * q))) 0 0 (fun _ => False) := by
  refine Met.ofW (cc := cX1_isCrowdedBy) (maxL := 2) (ret := (some .boolean)) (by decide) rfl ?_
  intro p e s m args below meth c s₁ Bd hml hv
  obtain ⟨rfl, hP, hK⟩ := hv
  have hx := Bd.exec
  have hb := Bd.bytes
  have hr := Bd.returns
  have hts := atoms_spec (ws := wsX1_isCrowdedBy) Bd.pre
  have hown : s.vm.findClass RX1 = some m.cls := findClass_of_methodNamed Bd.named
  have hlocks := Bd.notSynchronized
  have S0 : CallFix p m c cX1_isCrowdedBy 2 s _ wsX1_isCrowdedBy RX1 := ⟨hx, hb, hml, hown, hts⟩
  have hP : va_P (dC, dI) vwCl [(h0, .inr (1, [.int x0, .ref t1, .ref t2, .int x3, .int x4, .int x5])), (t1, .inr (0, [.ref m1, .ref k1, .ref v1, .int (nI n)]))] s.heap := hP
  have hl := lv_entry ([.ref h0, .int (nI q)]) (n := 2) (Nat.le_of_ble_eq_true rfl)
  rw [lg_entry_eq]
  generalize (lg_sl ([.ref h0, .int (nI q)]) ++ List.replicate (2 - (lg_sl ([.ref h0, .int (nI q)])).length) Slot.unset).toArray = ls at hl ⊢
  have hl : lv_has ls 2 [(0, .ref h0), (1, .int (nI q))] := hl
  refine lv_iload_n hx hb dX1_isCrowdedBy_0 rfl (lv_at hl 1 rfl) ?_
  refine lv_iconst (v := 4) hx hb dX1_isCrowdedBy_1 (by decide) ?_
  refine lv_imul hx hb dX1_isCrowdedBy_2 ?_
  refine r_eq (z := nI (q * 4)) (pk_mul q 4) ?_
  refine lv_aload_n hx hb dX1_isCrowdedBy_3 rfl (lv_at hl 0 rfl) ?_
  refine va_get (D := (dC, dI)) (ci := 1) (v := .ref t1) (C := RX1) (T := TX1) (N := 6) hx hb hts hin_X1_isCrowdedBy_X1 hown hK hP 0 rfl rfl 1 (by decide) (hts (.fieldLink RX1 22 "StepMap" "newTable" "LStepMap$Table;") (by decide +kernel)) (fun _ h9 => h9) rfl dX1_isCrowdedBy_4 ?_
  refine va_get (D := (dC, dI)) (ci := 0) (v := .int (nI n)) (C := RX0) (T := TX0) (N := 4) hx hb hts hin_X1_isCrowdedBy_X0 hown hK hP 1 rfl rfl 3 (by decide) (hts (.fieldLink RX1 69 "StepMap$Table" "slots" "I") (by decide +kernel)) (fun _ h9 => h9) rfl dX1_isCrowdedBy_7 ?_
  refine lv_iconst (v := 3) hx hb dX1_isCrowdedBy_10 (by decide) ?_
  refine lv_imul hx hb dX1_isCrowdedBy_11 ?_
  refine r_eq (z := nI (n * 3)) (pk_mul n 3) ?_
  refine lv_icmp_lt (tgt := 19) hx hb dX1_isCrowdedBy_12 (by decide) (fun c_12 => ?_) (fun c_12 => ?_)
  · have h_12 := q_lt_t (a := q * 4) (b := n * 3) (by omega) (by omega) c_12
    refine lv_iconst (v := 0) hx hb dX1_isCrowdedBy_19 (by decide) ?_
    exact W.zret (v := 0) hx hb hr (rfl) (fun t ht hW => ⟨_, rfl, (q_b_f (by omega)).symm, ht⟩) (fun _ h => by cases h) dX1_isCrowdedBy_20
  · have h_12 := q_lt_f (a := q * 4) (b := n * 3) (by omega) (by omega) c_12
    refine lv_iconst (v := 1) hx hb dX1_isCrowdedBy_15 (by decide) ?_
    refine lv_goto (tgt := 20) hx hb dX1_isCrowdedBy_16 (by decide) ?_
    exact W.zret (v := 1) hx hb hr (rfl) (fun t ht hW => ⟨_, rfl, (q_b_t (by omega)).symm, ht⟩) (fun _ h => by cases h) dX1_isCrowdedBy_20
set_option maxHeartbeats 4000000 in
set_option maxRecDepth 100000 in
theorem c_X1_isSparse (l : Launch) (dC : Nat → ClassId) (dI : Nat → Nat → Nat) (cI : ClassId) (h0 t1 : Nat) (x0 : Int32) (t2 : Nat) (x3 x5 : Int32) (m1 k1 v1 n q : Nat) (hn : n ≤ 4096) (hq : q ≤ 8192) : Met l yX1_isSparse wsX1_isSparse ({ frames := 0, cells := 0, slots := 0, locals := 0 }) (r_Pc (dC, dI) vwCl [(cI, .int)] [(h0, .inr (1, [.int x0, .ref t1, .ref t2, .int x3, .int (nI q), .int x5])), (t1, .inr (0, [.ref m1, .ref k1, .ref v1, .int (nI n)]))] [.ref h0]) (vp_Si (fun r => r = q_b (8 * q ≤ n ∧ 8 < n))) 0 0 (fun _ => False) := by
  refine Met.ofW (cc := cX1_isSparse) (maxL := 1) (ret := (some .boolean)) (by decide) rfl ?_
  intro p e s m args below meth c s₁ Bd hml hv
  obtain ⟨rfl, hP, hK⟩ := hv
  have hx := Bd.exec
  have hb := Bd.bytes
  have hr := Bd.returns
  have hts := atoms_spec (ws := wsX1_isSparse) Bd.pre
  have hown : s.vm.findClass RX1 = some m.cls := findClass_of_methodNamed Bd.named
  have hlocks := Bd.notSynchronized
  have S0 : CallFix p m c cX1_isSparse 1 s _ wsX1_isSparse RX1 := ⟨hx, hb, hml, hown, hts⟩
  have hP : va_P (dC, dI) vwCl [(h0, .inr (1, [.int x0, .ref t1, .ref t2, .int x3, .int (nI q), .int x5])), (t1, .inr (0, [.ref m1, .ref k1, .ref v1, .int (nI n)]))] s.heap := hP
  have hl := lv_entry ([.ref h0]) (n := 1) (Nat.le_of_ble_eq_true rfl)
  rw [lg_entry_eq]
  generalize (lg_sl ([.ref h0]) ++ List.replicate (1 - (lg_sl ([.ref h0])).length) Slot.unset).toArray = ls at hl ⊢
  have hl : lv_has ls 1 [(0, .ref h0)] := hl
  refine lv_aload_n hx hb dX1_isSparse_0 rfl (lv_at hl 0 rfl) ?_
  refine va_get (D := (dC, dI)) (ci := 1) (v := .int (nI q)) (C := RX1) (T := TX1) (N := 6) hx hb hts hin_X1_isSparse_X1 hown hK hP 0 rfl rfl 4 (by decide) (hts (.fieldLink RX1 57 "StepMap" "keyCount" "I") (by decide +kernel)) (fun _ h9 => h9) rfl dX1_isSparse_1 ?_
  refine lv_bipush (v := 8) hx hb dX1_isSparse_4 (by decide) ?_
  refine lv_imul hx hb dX1_isSparse_6 ?_
  refine r_eq (z := nI (q * 8)) (pk_mul q 8) ?_
  refine lv_aload_n hx hb dX1_isSparse_7 rfl (lv_at hl 0 rfl) ?_
  refine va_get (D := (dC, dI)) (ci := 1) (v := .ref t1) (C := RX1) (T := TX1) (N := 6) hx hb hts hin_X1_isSparse_X1 hown hK hP 0 rfl rfl 1 (by decide) (hts (.fieldLink RX1 22 "StepMap" "newTable" "LStepMap$Table;") (by decide +kernel)) (fun _ h9 => h9) rfl dX1_isSparse_8 ?_
  refine va_get (D := (dC, dI)) (ci := 0) (v := .int (nI n)) (C := RX0) (T := TX0) (N := 4) hx hb hts hin_X1_isSparse_X0 hown hK hP 1 rfl rfl 3 (by decide) (hts (.fieldLink RX1 69 "StepMap$Table" "slots" "I") (by decide +kernel)) (fun _ h9 => h9) rfl dX1_isSparse_11 ?_
  refine lv_icmp_gt (tgt := 33) hx hb dX1_isSparse_14 (by decide) (fun c_14 => ?_) (fun c_14 => ?_)
  · have h_14 := q_lt_t (a := n) (b := q * 8) (by omega) (by omega) c_14
    refine lv_iconst (v := 0) hx hb dX1_isSparse_33 (by decide) ?_
    exact W.zret (v := 0) hx hb hr (rfl) (fun t ht hW => ⟨_, rfl, (q_b_f (by omega)).symm, ht⟩) (fun _ h => by cases h) dX1_isSparse_34
  · have h_14 := q_lt_f (a := n) (b := q * 8) (by omega) (by omega) c_14
    refine lv_aload_n hx hb dX1_isSparse_17 rfl (lv_at hl 0 rfl) ?_
    refine va_get (D := (dC, dI)) (ci := 1) (v := .ref t1) (C := RX1) (T := TX1) (N := 6) hx hb hts hin_X1_isSparse_X1 hown hK hP 0 rfl rfl 1 (by decide) (hts (.fieldLink RX1 22 "StepMap" "newTable" "LStepMap$Table;") (by decide +kernel)) (fun _ h9 => h9) rfl dX1_isSparse_18 ?_
    refine va_get (D := (dC, dI)) (ci := 0) (v := .int (nI n)) (C := RX0) (T := TX0) (N := 4) hx hb hts hin_X1_isSparse_X0 hown hK hP 1 rfl rfl 3 (by decide) (hts (.fieldLink RX1 69 "StepMap$Table" "slots" "I") (by decide +kernel)) (fun _ h9 => h9) rfl dX1_isSparse_21 ?_
    refine lv_bipush (v := 8) hx hb dX1_isSparse_24 (by decide) ?_
    refine lv_icmp_le (tgt := 33) hx hb dX1_isSparse_26 (by decide) (fun c_26 => ?_) (fun c_26 => ?_)
    · have h_26 := q_le_t (a := n) (b := 8) (by omega) (by omega) c_26
      refine lv_iconst (v := 0) hx hb dX1_isSparse_33 (by decide) ?_
      exact W.zret (v := 0) hx hb hr (rfl) (fun t ht hW => ⟨_, rfl, (q_b_f (by omega)).symm, ht⟩) (fun _ h => by cases h) dX1_isSparse_34
    · have h_26 := q_le_f (a := n) (b := 8) (by omega) (by omega) c_26
      refine lv_iconst (v := 1) hx hb dX1_isSparse_29 (by decide) ?_
      refine lv_goto (tgt := 34) hx hb dX1_isSparse_30 (by decide) ?_
      exact W.zret (v := 1) hx hb hr (rfl) (fun t ht hW => ⟨_, rfl, (q_b_t (by omega)).symm, ht⟩) (fun _ h => by cases h) dX1_isSparse_34
set_option maxHeartbeats 4000000 in
set_option maxRecDepth 100000 in
theorem c_X1_emptySlot (l : Launch) (dC : Nat → ClassId) (dI : Nat → Nat → Nat) (cI : ClassId) (x : Int32)  : Met l yX1_emptySlot wsX1_emptySlot ({ frames := 0, cells := 0, slots := 0, locals := 0 }) (r_Pc (dC, dI) vwCl [(cI, .int)] [] [.int x]) (vp_Si (fun r => r = (-1) - x)) 0 0 (fun _ => False) := by
  refine Met.ofW (cc := cX1_emptySlot) (maxL := 1) (ret := (some .int)) (by decide) rfl ?_
  intro p e s m args below meth c s₁ Bd hml hv
  obtain ⟨rfl, hP, hK⟩ := hv
  have hx := Bd.exec
  have hb := Bd.bytes
  have hr := Bd.returns
  have hts := atoms_spec (ws := wsX1_emptySlot) Bd.pre
  have hown : s.vm.findClass RX1 = some m.cls := findClass_of_methodNamed Bd.named
  have hlocks := Bd.notSynchronized
  have S0 : CallFix p m c cX1_emptySlot 1 s _ wsX1_emptySlot RX1 := ⟨hx, hb, hml, hown, hts⟩
  have hP : va_P (dC, dI) vwCl [] s.heap := hP
  have hl := lv_entry ([.int x]) (n := 1) (Nat.le_of_ble_eq_true rfl)
  rw [lg_entry_eq]
  generalize (lg_sl ([.int x]) ++ List.replicate (1 - (lg_sl ([.int x])).length) Slot.unset).toArray = ls at hl ⊢
  have hl : lv_has ls 1 [(0, .int x)] := hl
  refine lv_iconst (v := -1) hx hb dX1_emptySlot_0 (by decide) ?_
  refine lv_iload_n hx hb dX1_emptySlot_1 rfl (lv_at hl 0 rfl) ?_
  refine lv_isub hx hb dX1_emptySlot_2 ?_
  exact W.iret (v := (-1) - x) hx hb hr (fun t ht hW => ⟨_, rfl, rfl, ht⟩) (fun _ h => by cases h) dX1_emptySlot_3
theorem q_lt_of {x y : Int32} (h : ¬ x ≤ y) : y < x := by rw [Int32.lt_iff_toInt_lt]; rw [Int32.le_iff_toInt_le] at h; omega
theorem q_ge_of {x y : Int32} (h : y < x) : ¬ x ≤ y := by rw [Int32.lt_iff_toInt_lt] at h; rw [Int32.le_iff_toInt_le]; omega
set_option maxHeartbeats 4000000 in
set_option maxRecDepth 100000 in
theorem lp_X1_powerWithin {p : Program} {l : Launch} {e : Env} {s : State} {m : MethodId} {args : Array Value} {below : List Frame} {meth : Method} {c : Code} {Q : State → Prop} {dC : Nat → ClassId} {dI : Nat → Nat → Nat} {cI : ClassId} {Aq : Nat → Prop} {H0 : Heap} (S0 : CallFix p m c cX1_powerWithin 2 s args wsX1_powerWithin RX1) (hK : va_K (dC, dI) vwCl [(cI, .int)] s) (hA : ∀ q : Nat, H0.size ≤ q → Aq q) (h : Int32) (R : Nat)  {H : Heap} {locs : List Loc} (hP : va_P (dC, dI) vwCl [] H)
    (kk : ∀ (ls : Array Slot), lv_has ls 2 [(0, .int h), (1, .int (nI R))] → W p l e ({ frames := 0, cells := 0, slots := 0, locals := 0 }) s m args below meth c H locs 0 0 Q (F0 m 24 ls [])) :
    ∀ (f : Nat) (p2 : Nat), q_HI f p2 ∧ q_hf f h p2 = R → ∀ (ls : Array Slot), lv_has ls 2 [(0, .int h), (1, .int (nI p2))] → W p l e ({ frames := 0, cells := 0, slots := 0, locals := 0 }) s m args below meth c H locs 0 0 Q (F0 m 3 ls []) := by
  obtain ⟨hx, hb, hml, hown, hts⟩ := id S0
  intro f
  induction f with
  | zero =>
    intro p2 hi ls hl
    have hpb := q_HI_b hi.1
    have hp := q_HI_0 hi.1
    refine lv_iload_n hx hb dX1_powerWithin_3 rfl (lv_at hl 1 rfl) ?_
    refine lv_sipush (v := 1024) hx hb dX1_powerWithin_4 (by decide) ?_
    refine lv_icmp_ge (tgt := 24) hx hb dX1_powerWithin_7 (by decide) (fun c_7 => ?_) (fun c_7 => ?_)
    · have h_7 := q_le_t (a := 1024) (b := p2) (by omega) (by omega) c_7
      have e1 : p2 = R := by rw [← hi.2]; exact rfl
      subst e1
      exact kk ls (lv_sub hl [0, 1] rfl)
    · have h_7 := q_le_f (a := 1024) (b := p2) (by omega) (by omega) c_7
      omega
  | succ f ih =>
    intro p2 hi ls hl
    have hpb := q_HI_b hi.1
    have hp := q_HI_1 hi.1
    refine lv_iload_n hx hb dX1_powerWithin_3 rfl (lv_at hl 1 rfl) ?_
    refine lv_sipush (v := 1024) hx hb dX1_powerWithin_4 (by decide) ?_
    refine lv_icmp_ge (tgt := 24) hx hb dX1_powerWithin_7 (by decide) (fun c_7 => ?_) (fun c_7 => ?_)
    · have h_7 := q_le_t (a := 1024) (b := p2) (by omega) (by omega) c_7
      omega
    · have h_7 := q_le_f (a := 1024) (b := p2) (by omega) (by omega) c_7
      refine lv_iload_n hx hb dX1_powerWithin_10 rfl (lv_at hl 1 rfl) ?_
      refine lv_iconst (v := 2) hx hb dX1_powerWithin_11 (by decide) ?_
      refine lv_imul hx hb dX1_powerWithin_12 ?_
      refine r_eq (z := nI (p2 * 2)) (pk_mul p2 2) ?_
      refine lv_iload_n hx hb dX1_powerWithin_13 rfl (lv_at hl 0 rfl) ?_
      refine lv_icmp_gt (tgt := 24) hx hb dX1_powerWithin_14 (by decide) (fun c_14 => ?_) (fun c_14 => ?_)
      · have c_14 := q_ge_of c_14
        have e1 : p2 = R := by rw [← hi.2, q_hf_0 c_14]
        subst e1
        exact kk ls (lv_sub hl [0, 1] rfl)
      · refine lv_iload_n hx hb dX1_powerWithin_17 rfl (lv_at hl 1 rfl) ?_
        refine lv_iconst (v := 2) hx hb dX1_powerWithin_18 (by decide) ?_
        refine lv_imul hx hb dX1_powerWithin_19 ?_
        refine r_eq (z := nI (p2 * 2)) (pk_mul p2 2) ?_
        refine lv_istore_n (lv' := [(1, .int (nI (p2 * 2))), (0, .int h)]) hx hb dX1_powerWithin_20 rfl hl (by decide) rfl (fun ls hl => ?_)
        refine lv_goto (tgt := 3) hx hb dX1_powerWithin_21 (by decide) ?_
        exact ih (p2 * 2) ⟨q_HI_s hi.1, by rw [← hi.2, q_hf_1 (Classical.byContradiction fun z => c_14 (q_lt_of z))]⟩ ls (lv_sub hl [1, 0] rfl)
set_option maxHeartbeats 4000000 in
set_option maxRecDepth 100000 in
theorem c_X1_powerWithin (l : Launch) (dC : Nat → ClassId) (dI : Nat → Nat → Nat) (cI : ClassId) (h : Int32)  : Met l yX1_powerWithin wsX1_powerWithin ({ frames := 0, cells := 0, slots := 0, locals := 0 }) (r_Pc (dC, dI) vwCl [(cI, .int)] [] [.int h]) (vp_Si (fun r => r = nI (q_half h))) 0 0 (fun _ => False) := by
  refine Met.ofW (cc := cX1_powerWithin) (maxL := 2) (ret := (some .int)) (by decide) rfl ?_
  intro p e s m args below meth c s₁ Bd hml hv
  obtain ⟨rfl, hP, hK⟩ := hv
  have hx := Bd.exec
  have hb := Bd.bytes
  have hr := Bd.returns
  have hts := atoms_spec (ws := wsX1_powerWithin) Bd.pre
  have hown : s.vm.findClass RX1 = some m.cls := findClass_of_methodNamed Bd.named
  have hlocks := Bd.notSynchronized
  have S0 : CallFix p m c cX1_powerWithin 2 s _ wsX1_powerWithin RX1 := ⟨hx, hb, hml, hown, hts⟩
  have hP : va_P (dC, dI) vwCl [] s.heap := hP
  have hl := lv_entry ([.int h]) (n := 2) (Nat.le_of_ble_eq_true rfl)
  rw [lg_entry_eq]
  generalize (lg_sl ([.int h]) ++ List.replicate (2 - (lg_sl ([.int h])).length) Slot.unset).toArray = ls at hl ⊢
  have hl : lv_has ls 2 [(0, .int h)] := hl
  refine lv_bipush (v := 8) hx hb dX1_powerWithin_0 (by decide) ?_
  refine lv_istore_n (lv' := [(1, .int 8), (0, .int h)]) hx hb dX1_powerWithin_2 rfl hl (by decide) rfl (fun ls hl => ?_)
  refine lp_X1_powerWithin (Aq := fun _ => True) (H0 := s.heap) S0 hK (fun _ _ => trivial) h (q_half h) hP (fun ls hl => ?_) 7 8 ⟨by unfold q_HI; omega, rfl⟩ ls (lv_sub hl [1, 0] rfl)
  refine lv_iload_n hx hb dX1_powerWithin_24 rfl (lv_at hl 1 rfl) ?_
  exact W.iret (v := nI (q_half h)) hx hb hr (fun t ht hW => ⟨_, rfl, rfl, ht⟩) (fun _ h => by cases h) dX1_powerWithin_25
