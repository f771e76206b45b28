/-! CONSTRUCTORS (laid by gen_init.py) -/
theorem hin_X1_init_X1 : ∀ w ∈ wsX10, w ∈ wsX1_init := by decide +kernel
theorem hin_X1_init_X0 : ∀ w ∈ wsX00, w ∈ wsX1_init := by decide +kernel
theorem hin_X2_init_X2 : ∀ w ∈ wsX20, w ∈ wsX2_init := by decide +kernel
theorem r_arr {D : va_G} {cl : List vw_C} {ta tb : List (ClassId × FieldType)} {s : State} {t1 t2 : Nat} {c1 c2 : ClassId} (h1 : va_K D cl ta s) (h2 : va_K D cl tb s) (e1 : ta[t1]? = some (c1, .int)) (e2 : tb[t2]? = some (c2, .int)) : c2 = c1 := by
  have a : s.vm.findClass ("[" ++ FieldType.int.toString) = some c1 := (h1.2 t1 _ e1).2
  have b : s.vm.findClass ("[" ++ FieldType.int.toString) = some c2 := (h2.2 t2 _ e2).2
  rw [a] at b
  exact (Option.some.inj b).symm
theorem r_known {s : State} {args : Array Value} (h : (Cond.arrayClass .int).before args s = true) : ∃ cI : ClassId, ArrOfT s cI .int ∧ va_RA s cI .int := by
  obtain ⟨c, k, comp, h1, h2, h3⟩ := Cond.arrayClass_spec h
  exact ⟨c, fun n z => ⟨fun k h => (by cases h), k, h2, comp, h3⟩, h1⟩
section RI
variable {p : Program} {l : Launch} {e : Env} {R : Room} {s : State} {m : MethodId} {args : Array Value} {below : List Frame} {meth : Method} {c : Code} {H : Heap} {locs : List Loc} {cells slots : Nat} {Q : State → Prop}
variable {cc : ByteArray} {pc : Nat} {ls : Array Slot} {rest st0 : List Value} {D : va_G} {cl : List vw_C} {A : Nat → Prop} {tys : List (ClassId × FieldType)} {ws wc wr : va_W} {H0 : Heap}
variable {y : MethodName} {bytes : ByteArray} {maxL nL n index mc ms : Nat} {wy : List Cond} {rm : Room} {Ts : List Cond} {own C : String} {b : Addr} {As : List Value}
/-- a constructor's call -/
theorem r_inV {S' : Type} {post : S' → Prop} {w1 : S' → va_W} (S : CallFix p m c cc nL s args Ts own) (hM : Met l y wy rm (r_Mc D cl tys wc H.size (.ref b :: As)) (va_Qv post (fun u t => r_B D cl tys (va_A wc H.size) (w1 u) t) (va_A wc H.size)) mc ms (va_A wc H.size)) (cw : CallB R s args own index y bytes maxL none wy rm mc ms n ∧ y.name = "<init>" ∧ (Cond.instanceMethod y).before args s = true)
    (hK : va_K D cl tys s) (hP : va_P D cl ws H) (hD : va_D A ws) (hS : va_S A H0 H locs) (hA : ∀ q, H0.size ≤ q → A q) (isC isR : List Nat) (hC : isC.map (fun i => ws[i]?) = wc.map some) (hR : isR.map (fun i => ws[i]?) = wr.map some) (hnC : va_nd isC = true) (hnd : va_nd isR = true) (hdis : ∀ i ∈ isR, i ∉ isC)
    (hn : As.length = n) (hsize : ls.size = nL) (hst : st0 = As.reverse ++ .ref b :: rest) (hW : (rest.map fun v => v.category).sum ≤ 8) (hdg : decode cc pc = .ok (.invokespecial index, 3)) (hf : cells + mc ≤ R.cells ∧ slots + ms ≤ R.slots)
    (kk : ∀ (u : S') (H1 : Heap) (locs1 : List Loc), post u → va_P D cl (wr ++ w1 u) H1 → va_D A (wr ++ w1 u) → va_S A H0 H1 locs1 → W p l e R s m args below meth c H1 locs1 (cells + mc) (slots + ms) Q (F0 m (pc + 3) ls rest)) : W p l e R s m args below meth c H locs cells slots Q (F0 m pc ls st0) := by
  have hPc : va_P D cl wc H := r_psub hP isC hC
  have hDc : va_D A wc := hD.sub isC hnC hC
  have hF := va_free hD hS hA isC hC
  refine va_callv (va_runI (As := As) (rest := rest) S hM cw ⟨r_blindM, fun U hU hW => ⟨rfl, by rw [hU], by rw [hU]; exact hPc, va_K.moved hW.alike hK, hDc.weaken (fun _ _ _ _ => trivial)⟩⟩ rfl hn hsize hst (lv_room hW) hdg hf) hS (fun q _ h => hF q h) hF (fun u t H1 locs1 ht hvm hw hB hz hk hS1 => ?_)
  obtain ⟨hP1, -, hD1⟩ := hB
  rw [ht] at hP1
  obtain ⟨a1, a2⟩ := va_join hP hD isC isR hC hR hnd hdis hk hF hP1 hD1
  exact kk u H1 locs1 hw a1 a2 hS1
end RI
/-- a map when it is new -/
def q_s0 (L : Nat) : q_ST := ((8, q_cl (fun _ => 0) 8, (fun _ => 0), (fun _ => 0)), (L, (fun _ => 0), (fun _ => 0), (fun _ => 0)), none, 0, 0)
theorem q_cl_z (n i : Nat) : q_cl (fun _ => 0) n i = 0 := by
  show (if i < n then (0 : Int32) else 0) = 0
  split <;> rfl
theorem q_s0_iv {L : Nat} (h : q_pw L) : q_iv L (q_s0 L) := by
  have h8 := q_pw_8 h
  have hz : ∀ i, q_cl (fun _ => 0) 8 i ≠ 2 := fun i => by rw [q_cl_z]; decide
  refine ⟨⟨h, q_pw_of (Or.inl rfl), (show 8 ≤ L by omega), h, Nat.le_refl L⟩, fun i _ => Or.inl (q_cl_z 8 i), fun j _ h2 => absurd h2 (hz j), fun i j _ _ h2 => absurd h2 (hz i), ?_, (by decide : 4 * 0 < 3 * 8)⟩
  show 0 = q_NK (q_cl (fun _ => 0) 8) 8
  exact (q_NK_0 8 (fun i _ => hz i)).symm
def q_u0 : q_U := (0, ((fun _ => 0), (fun _ => 0), (fun _ => 0)), upd (fun _ => 0) 0 8, 0, 0, 0)
theorem q_s0_rl (L : Nat) : q_rl (q_s0 L) q_u0 := by
  refine ⟨(by decide : 0 < 2), rfl, fun i _ => ⟨?_, fun h2 => ?_⟩, (q_b_f (fun y => by cases y)).symm, fun c hc => by cases hc⟩
  · show (0 : Int32) = q_sw (q_cl (fun _ => 0) 8 i)
    rw [q_cl_z]; rfl
  · have h2 : q_cl (fun _ => 0) 8 i = 2 := h2
    rw [q_cl_z] at h2
    exact absurd h2 (by decide)
theorem q_half2 {f n : Nat} {h : Int32} (hn : q_HI (f + 1) n) : nI n ≤ h / 2 ↔ nI (n * 2) ≤ h := by
  have hb := q_HI_b hn
  have h1 := q_HI_1 hn
  have e : (h / 2).toInt = h.toInt.tdiv 2 := by
    rw [Jvm.Kit.i32_div (by rw [show (2 : Int32).toInt = 2 from by decide]; omega), show (2 : Int32).toInt = 2 from by decide]
  rw [Int32.le_iff_toInt_le, Int32.le_iff_toInt_le, e, nI_toInt (n := n) (by omega), nI_toInt (n := n * 2) (by omega)]
  by_cases z : 0 ≤ h.toInt
  · rw [Int.tdiv_eq_ediv_of_nonneg z]; omega
  · have : h.toInt.tdiv 2 = -((-h.toInt) / 2) := by
      rw [← Int.neg_neg h.toInt, Int.neg_tdiv, Int.tdiv_eq_ediv_of_nonneg (by omega), Int.neg_neg]
    rw [this]; omega
set_option maxHeartbeats 4000000 in
set_option maxRecDepth 100000 in
theorem c_X0_init (l : Launch) (dC : Nat → ClassId) (dI : Nat → Nat → Nat) (cI : ClassId) (ta L : Nat) (sz : Nat) (hL : L ≤ 1024) : Met l yX0_init wsX0_init ({ frames := 1, cells := 3, slots := 3072, locals := 12 }) (r_Mc (dC, dI) vwCl [(cI, .int)] [(ta, .inr (0, [.null, .null, .null, .int 0]))] sz [.ref ta, .int (nI L)]) (va_Qv (fun (_ : Nat × Nat × Nat) => True) (fun u t => r_B (dC, dI) vwCl [(cI, .int)] (va_A [(ta, .inr (0, [.null, .null, .null, .int 0]))] sz) ((fun u => [(ta, .inr (0, [.ref u.1, .ref u.2.1, .ref u.2.2, .int (nI L)])), (u.1, .inl (cI, L, .inl (fun _ => 0))), (u.2.1, .inl (cI, L, .inl (fun _ => 0))), (u.2.2, .inl (cI, L, .inl (fun _ => 0)))]) u) t) (va_A [(ta, .inr (0, [.null, .null, .null, .int 0]))] sz)) 3 3072 (va_A [(ta, .inr (0, [.null, .null, .null, .int 0]))] sz) := by
  refine Met.ofW (cc := cX0_init) (maxL := 2) (ret := none) (by decide) rfl ?_
  intro p e s m args below meth c s₁ Bd hml hv
  obtain ⟨rfl, hsz, hP, hK, hD0⟩ := hv
  have hx := Bd.exec
  have hb := Bd.bytes
  have hr := Bd.returns
  have hts := atoms_spec (ws := wsX0_init) Bd.pre
  have hown : s.vm.findClass RX0 = some m.cls := findClass_of_methodNamed Bd.named
  have hlocks := Bd.notSynchronized
  have hin : meth.name = "<init>" := (name_of_methodNamed Bd.named Bd.method).1
  have S0 : CallFix p m c cX0_init 2 s _ wsX0_init RX0 := ⟨hx, hb, hml, hown, hts⟩
  subst hsz
  have hD := hD0.self (sz := s.heap.size)
  generalize hAe : va_A [(ta, .inr (0, [.null, .null, .null, .int 0]))] s.heap.size = Aq at hD ⊢
  have hA : ∀ q : Nat, s.heap.size ≤ q → Aq q := fun q h => by rw [← hAe]; exact Or.inr h
  have hS : va_S Aq s.heap s.heap [] := va_S.rf
  have hD : va_D Aq [(ta, .inr (0, [.null, .null, .null, .int 0]))] := hD
  have hP : va_P (dC, dI) vwCl [(ta, .inr (0, [.null, .null, .null, .int 0]))] s.heap := hP
  have hl := lv_entry ([.ref ta, .int (nI L)]) (n := 2) (Nat.le_of_ble_eq_true rfl)
  rw [lg_entry_eq]
  generalize (lg_sl ([.ref ta, .int (nI L)]) ++ List.replicate (2 - (lg_sl ([.ref ta, .int (nI L)])).length) Slot.unset).toArray = ls at hl ⊢
  have hl : lv_has ls 2 [(0, .ref ta), (1, .int (nI L))] := hl
  refine lv_aload_n hx hb dX0_init_0 rfl (lv_at hl 0 rfl) ?_
  refine W.objInit hx hb hown (hts (.methodLink RX0 1 objectInit) (by decide +kernel)) (hts (.instanceMethod objectInit) (by decide +kernel)) (hts (.code objectInit ⟨#[0xb1]⟩ 1 none) (by decide +kernel)) rfl (by rw [hml]; exact hl.1) rfl dX0_init_1 (Nat.le_of_ble_eq_true rfl) (Nat.le_of_ble_eq_true rfl) ?_
  refine W.eq (g2 := F0 m 4 ls []) rfl ?_
  refine lv_aload_n hx hb dX0_init_4 rfl (lv_at hl 0 rfl) ?_
  refine lv_iload_n hx hb dX0_init_5 rfl (lv_at hl 1 rfl) ?_
  refine va_newa (atype := .int) (ty := .int) (N' := L) (a0 := (L, .inl (fun _ => 0))) hx hb (hts (.arrayClass .int) (by decide +kernel)) rfl hK hP hD hS hA (fun _ => rfl) (nI_pos (n := L) (by omega)) (nI_clamp (n := L) (by omega)) (by show L * 4 ≤ 536870912; omega) (Nat.le_of_ble_eq_true rfl) (by show 0 + L ≤ 3072; omega) dX0_init_6 (fun q6 cA H hK2 hP hD hS => ?_)
  have ec : cI = cA := (r_arr (t1 := 0) (t2 := 1) hK hK2 rfl rfl).symm
  subst ec
  have hP : va_P (dC, dI) vwCl [(ta, .inr (0, [.null, .null, .null, .int 0])), (q6, .inl (cI, L, .inl (fun _ => 0)))] H := hP
  have hD : va_D Aq [(ta, .inr (0, [.null, .null, .null, .int 0])), (q6, .inl (cI, L, .inl (fun _ => 0)))] := hD
  refine va_putF (D := (dC, dI)) (ci := 0) (v := .ref q6) (ty := (.array .int)) (C := RX0) (T := TX0) (N := 4) hx hb hts hin_X0_init_X0 tyX0 tyX0_ok nmX0 hown hK hP hD hS 0 rfl rfl 0 (by decide) (hts (.fieldLink RX0 7 "StepMap$Table" "marks" "[I") (by decide +kernel)) (fun _ h9 => h9) rfl hin rfl (by decide +kernel) (rfl) (rfl) (Nat.le_of_ble_eq_true rfl) dX0_init_8 (fun H locs hP hD hS => ?_)
  have hP : va_P (dC, dI) vwCl [(ta, .inr (0, [.ref q6, .null, .null, .int 0])), (q6, .inl (cI, L, .inl (fun _ => 0)))] H := hP
  have hD : va_D Aq [(ta, .inr (0, [.ref q6, .null, .null, .int 0])), (q6, .inl (cI, L, .inl (fun _ => 0)))] := hD
  refine lv_aload_n hx hb dX0_init_11 rfl (lv_at hl 0 rfl) ?_
  refine lv_iload_n hx hb dX0_init_12 rfl (lv_at hl 1 rfl) ?_
  refine va_newa (atype := .int) (ty := .int) (N' := L) (a0 := (L, .inl (fun _ => 0))) hx hb (hts (.arrayClass .int) (by decide +kernel)) rfl hK hP hD hS hA (fun _ => rfl) (nI_pos (n := L) (by omega)) (nI_clamp (n := L) (by omega)) (by show L * 4 ≤ 536870912; omega) (Nat.le_of_ble_eq_true rfl) (by show 0 + L + L ≤ 3072; omega) dX0_init_13 (fun q13 cA H hK2 hP hD hS => ?_)
  have ec : cI = cA := (r_arr (t1 := 0) (t2 := 1) hK hK2 rfl rfl).symm
  subst ec
  have hP : va_P (dC, dI) vwCl [(ta, .inr (0, [.ref q6, .null, .null, .int 0])), (q6, .inl (cI, L, .inl (fun _ => 0))), (q13, .inl (cI, L, .inl (fun _ => 0)))] H := hP
  have hD : va_D Aq [(ta, .inr (0, [.ref q6, .null, .null, .int 0])), (q6, .inl (cI, L, .inl (fun _ => 0))), (q13, .inl (cI, L, .inl (fun _ => 0)))] := hD
  refine va_putF (D := (dC, dI)) (ci := 0) (v := .ref q13) (ty := (.array .int)) (C := RX0) (T := TX0) (N := 4) hx hb hts hin_X0_init_X0 tyX0 tyX0_ok nmX0 hown hK hP hD hS 0 rfl rfl 1 (by decide) (hts (.fieldLink RX0 13 "StepMap$Table" "keys" "[I") (by decide +kernel)) (fun _ h9 => h9) rfl hin rfl (by decide +kernel) (rfl) (rfl) (Nat.le_of_ble_eq_true rfl) dX0_init_15 (fun H locs hP hD hS => ?_)
  have hP : va_P (dC, dI) vwCl [(ta, .inr (0, [.ref q6, .ref q13, .null, .int 0])), (q6, .inl (cI, L, .inl (fun _ => 0))), (q13, .inl (cI, L, .inl (fun _ => 0)))] H := hP
  have hD : va_D Aq [(ta, .inr (0, [.ref q6, .ref q13, .null, .int 0])), (q6, .inl (cI, L, .inl (fun _ => 0))), (q13, .inl (cI, L, .inl (fun _ => 0)))] := hD
  refine lv_aload_n hx hb dX0_init_18 rfl (lv_at hl 0 rfl) ?_
  refine lv_iload_n hx hb dX0_init_19 rfl (lv_at hl 1 rfl) ?_
  refine va_newa (atype := .int) (ty := .int) (N' := L) (a0 := (L, .inl (fun _ => 0))) hx hb (hts (.arrayClass .int) (by decide +kernel)) rfl hK hP hD hS hA (fun _ => rfl) (nI_pos (n := L) (by omega)) (nI_clamp (n := L) (by omega)) (by show L * 4 ≤ 536870912; omega) (Nat.le_of_ble_eq_true rfl) (by show 0 + L + L + L ≤ 3072; omega) dX0_init_20 (fun q20 cA H hK2 hP hD hS => ?_)
  have ec : cI = cA := (r_arr (t1 := 0) (t2 := 1) hK hK2 rfl rfl).symm
  subst ec
  have hP : va_P (dC, dI) vwCl [(ta, .inr (0, [.ref q6, .ref q13, .null, .int 0])), (q6, .inl (cI, L, .inl (fun _ => 0))), (q13, .inl (cI, L, .inl (fun _ => 0))), (q20, .inl (cI, L, .inl (fun _ => 0)))] H := hP
  have hD : va_D Aq [(ta, .inr (0, [.ref q6, .ref q13, .null, .int 0])), (q6, .inl (cI, L, .inl (fun _ => 0))), (q13, .inl (cI, L, .inl (fun _ => 0))), (q20, .inl (cI, L, .inl (fun _ => 0)))] := hD
  refine va_putF (D := (dC, dI)) (ci := 0) (v := .ref q20) (ty := (.array .int)) (C := RX0) (T := TX0) (N := 4) hx hb hts hin_X0_init_X0 tyX0 tyX0_ok nmX0 hown hK hP hD hS 0 rfl rfl 2 (by decide) (hts (.fieldLink RX0 16 "StepMap$Table" "values" "[I") (by decide +kernel)) (fun _ h9 => h9) rfl hin rfl (by decide +kernel) (rfl) (rfl) (Nat.le_of_ble_eq_true rfl) dX0_init_22 (fun H locs hP hD hS => ?_)
  have hP : va_P (dC, dI) vwCl [(ta, .inr (0, [.ref q6, .ref q13, .ref q20, .int 0])), (q6, .inl (cI, L, .inl (fun _ => 0))), (q13, .inl (cI, L, .inl (fun _ => 0))), (q20, .inl (cI, L, .inl (fun _ => 0)))] H := hP
  have hD : va_D Aq [(ta, .inr (0, [.ref q6, .ref q13, .ref q20, .int 0])), (q6, .inl (cI, L, .inl (fun _ => 0))), (q13, .inl (cI, L, .inl (fun _ => 0))), (q20, .inl (cI, L, .inl (fun _ => 0)))] := hD
  refine lv_aload_n hx hb dX0_init_25 rfl (lv_at hl 0 rfl) ?_
  refine lv_iload_n hx hb dX0_init_26 rfl (lv_at hl 1 rfl) ?_
  refine va_put (D := (dC, dI)) (ci := 0) (v := .int (nI L)) (ty := .int) (C := RX0) (T := TX0) (N := 4) hx hb hts hin_X0_init_X0 tyX0 tyX0_ok nmX0 hown hK hP hD hS 0 rfl rfl 3 (by decide) (hts (.fieldLink RX0 19 "StepMap$Table" "slots" "I") (by decide +kernel)) (fun _ h9 => h9) rfl (by decide +kernel) (rfl) (rfl) (Nat.le_of_ble_eq_true rfl) dX0_init_27 (fun H locs hP hD hS => ?_)
  have hP : va_P (dC, dI) vwCl [(ta, .inr (0, [.ref q6, .ref q13, .ref q20, .int (nI L)])), (q6, .inl (cI, L, .inl (fun _ => 0))), (q13, .inl (cI, L, .inl (fun _ => 0))), (q20, .inl (cI, L, .inl (fun _ => 0)))] H := hP
  have hD : va_D Aq [(ta, .inr (0, [.ref q6, .ref q13, .ref q20, .int (nI L)])), (q6, .inl (cI, L, .inl (fun _ => 0))), (q13, .inl (cI, L, .inl (fun _ => 0))), (q20, .inl (cI, L, .inl (fun _ => 0)))] := hD
  refine W.widen (k := 3) (n := 3072) (Nat.le_of_ble_eq_true rfl) (by show 0 + L + L + L ≤ 3072; omega) ?_
  exact W.vret hx hb hr (fun t ht hW => ⟨⟨(q6, q13, q20), rfl, trivial, by rw [ht]; exact hP, va_K.moved hW.alike hK, hD⟩, hS.F ht⟩) hS.2.2 dX0_init_30
set_option maxHeartbeats 4000000 in
set_option maxRecDepth 100000 in
theorem c_X1_init (l : Launch) (dC : Nat → ClassId) (dI : Nat → Nat → Nat) (cI : ClassId) (h0 : Nat) (hv : Int32) (sz : Nat)  : Met l yX1_init wsX1_init ({ frames := 2, cells := 8, slots := 6152, locals := 43 }) (r_Mc (dC, dI) vwCl [(cI, .int)] [(h0, .inr (1, [.int 0, .null, .null, .int 0, .int 0, .int 0]))] sz [.ref h0, .int hv]) (va_Qv (fun (_ : q_AD) => True) (fun u t => r_B (dC, dI) vwCl [(cI, .int)] (va_A [(h0, .inr (1, [.int 0, .null, .null, .int 0, .int 0, .int 0]))] sz) ((fun u => q_WS cI (q_half hv) h0 u (q_s0 (q_half hv))) u) t) (va_A [(h0, .inr (1, [.int 0, .null, .null, .int 0, .int 0, .int 0]))] sz)) 8 6152 (va_A [(h0, .inr (1, [.int 0, .null, .null, .int 0, .int 0, .int 0]))] sz) := by
  refine Met.ofW (cc := cX1_init) (maxL := 2) (ret := none) (by decide) rfl ?_
  intro p e s m args below meth c s₁ Bd hml hv
  obtain ⟨rfl, hsz, hP, hK, hD0⟩ := hv
  have hx := Bd.exec
  have hb := Bd.bytes
  have hr := Bd.returns
  have hts := atoms_spec (ws := wsX1_init) Bd.pre
  have hown : s.vm.findClass RX1 = some m.cls := findClass_of_methodNamed Bd.named
  have hlocks := Bd.notSynchronized
  have hin : meth.name = "<init>" := (name_of_methodNamed Bd.named Bd.method).1
  have S0 : CallFix p m c cX1_init 2 s _ wsX1_init RX1 := ⟨hx, hb, hml, hown, hts⟩
  subst hsz
  have hD := hD0.self (sz := s.heap.size)
  generalize hAe : va_A [(h0, .inr (1, [.int 0, .null, .null, .int 0, .int 0, .int 0]))] s.heap.size = Aq at hD ⊢
  have hA : ∀ q : Nat, s.heap.size ≤ q → Aq q := fun q h => by rw [← hAe]; exact Or.inr h
  have hS : va_S Aq s.heap s.heap [] := va_S.rf
  have hD : va_D Aq [(h0, .inr (1, [.int 0, .null, .null, .int 0, .int 0, .int 0]))] := hD
  have hP : va_P (dC, dI) vwCl [(h0, .inr (1, [.int 0, .null, .null, .int 0, .int 0, .int 0]))] s.heap := hP
  have hl := lv_entry ([.ref h0, .int hv]) (n := 2) (Nat.le_of_ble_eq_true rfl)
  rw [lg_entry_eq]
  generalize (lg_sl ([.ref h0, .int hv]) ++ List.replicate (2 - (lg_sl ([.ref h0, .int hv])).length) Slot.unset).toArray = ls at hl ⊢
  have hl : lv_has ls 2 [(0, .ref h0), (1, .int hv)] := hl
  have hpw := q_half_pw hv
  have hL8 := q_pw_8 hpw
  refine lv_aload_n hx hb dX1_init_0 rfl (lv_at hl 0 rfl) ?_
  refine W.objInit hx hb hown (hts (.methodLink RX1 1 objectInit) (by decide +kernel)) (hts (.instanceMethod objectInit) (by decide +kernel)) (hts (.code objectInit ⟨#[0xb1]⟩ 1 none) (by decide +kernel)) rfl (by rw [hml]; exact hl.1) rfl dX1_init_1 (Nat.le_of_ble_eq_true rfl) (Nat.le_of_ble_eq_true rfl) ?_
  refine W.eq (g2 := F0 m 4 ls []) rfl ?_
  refine lv_aload_n hx hb dX1_init_4 rfl (lv_at hl 0 rfl) ?_
  refine lv_iload_n hx hb dX1_init_5 rfl (lv_at hl 1 rfl) ?_
  refine r_roS (rest := [.ref h0]) S0 (c_X1_powerWithin l dC dI cI hv) (va_cwS 1 hts gX1_init_X1_powerWithin rfl rfl rfl (by decide +kernel) ⟨Nat.le_of_ble_eq_true rfl, Nat.le_of_ble_eq_true rfl⟩) hK hP [] rfl rfl hl.1 rfl (Nat.le_of_ble_eq_true rfl) dX1_init_6 ⟨Nat.le_of_ble_eq_true rfl, Nat.le_of_ble_eq_true rfl⟩ ?_
  refine va_putF (D := (dC, dI)) (ci := 1) (v := .int (nI (q_half hv))) (ty := .int) (C := RX1) (T := TX1) (N := 6) hx hb hts hin_X1_init_X1 tyX1 tyX1_ok nmX1 hown hK hP hD hS 0 rfl rfl 0 (by decide) (hts (.fieldLink RX1 13 "StepMap" "half" "I") (by decide +kernel)) (fun _ h9 => h9) rfl hin rfl (by decide +kernel) (rfl) (rfl) (Nat.le_of_ble_eq_true rfl) dX1_init_9 (fun H locs hP hD hS => ?_)
  have hP : va_P (dC, dI) vwCl [(h0, .inr (1, [.int (nI (q_half hv)), .null, .null, .int 0, .int 0, .int 0]))] H := hP
  have hD : va_D Aq [(h0, .inr (1, [.int (nI (q_half hv)), .null, .null, .int 0, .int 0, .int 0]))] := hD
  refine lv_aload_n hx hb dX1_init_12 rfl (lv_at hl 0 rfl) ?_
  refine va_new (ci := 0) (fs := [.null, .null, .null, .int 0]) (C := RX0) (T := TX0) (N := 4) hx hb hts hin_X1_init_X0 tyX0 tyX0_ok hown (hts (.classLink RX1 17 RX0) (by decide +kernel)) (hts (.instantiable RX0 4) (by decide +kernel)) (hts (.initialized RX0) (by decide +kernel)) hK hP hD hS hA rfl (fun j hj => by rcases (show j = 0 ∨ j = 1 ∨ j = 2 ∨ j = 3 by omega) with rfl | rfl | rfl | rfl <;> rfl) (Nat.le_of_ble_eq_true rfl) (Nat.le_of_ble_eq_true rfl) dX1_init_13 (fun q13 H hP hD hS => ?_)
  have hP : va_P (dC, dI) vwCl [(h0, .inr (1, [.int (nI (q_half hv)), .null, .null, .int 0, .int 0, .int 0])), (q13, .inr (0, [.null, .null, .null, .int 0]))] H := hP
  have hD : va_D Aq [(h0, .inr (1, [.int (nI (q_half hv)), .null, .null, .int 0, .int 0, .int 0])), (q13, .inr (0, [.null, .null, .null, .int 0]))] := hD
  refine lv_dup hx hb dX1_init_16 rfl ?_
  refine lv_aload_n hx hb dX1_init_17 rfl (lv_at hl 0 rfl) ?_
  refine va_get (D := (dC, dI)) (ci := 1) (v := .int (nI (q_half hv))) (C := RX1) (T := TX1) (N := 6) hx hb hts hin_X1_init_X1 hown hK hP 0 rfl rfl 0 (by decide) (hts (.fieldLink RX1 13 "StepMap" "half" "I") (by decide +kernel)) (fun _ h9 => h9) rfl dX1_init_18 ?_
  refine r_inV (wr := [(h0, .inr (1, [.int (nI (q_half hv)), .null, .null, .int 0, .int 0, .int 0]))]) (rest := [.ref q13, .ref h0]) S0 (c_X0_init l dC dI cI q13 (q_half hv) H.size (by omega)) (cwI 1 hts gX1_init_X0_init rfl rfl rfl (hts (.initialized RX0) (by decide +kernel)) (hts (.methodLink RX1 19 yX0_init) (by decide +kernel)) (hts (.instanceMethod yX0_init) (by decide +kernel)) rfl (by decide +kernel) ⟨Nat.le_of_ble_eq_true rfl, Nat.le_of_ble_eq_true rfl⟩) hK hP hD hS hA [1] [0] rfl rfl (by decide) (by decide) (by decide) rfl hl.1 rfl (Nat.le_of_ble_eq_true rfl) dX1_init_21 ⟨Nat.le_of_ble_eq_true rfl, Nat.le_of_ble_eq_true rfl⟩ (fun u21 H locs hu hP hD hS => ?_)
  have hP : va_P (dC, dI) vwCl [(h0, .inr (1, [.int (nI (q_half hv)), .null, .null, .int 0, .int 0, .int 0])), (q13, .inr (0, [.ref u21.1, .ref u21.2.1, .ref u21.2.2, .int (nI (q_half hv))])), (u21.1, .inl (cI, (q_half hv), .inl (fun _ => 0))), (u21.2.1, .inl (cI, (q_half hv), .inl (fun _ => 0))), (u21.2.2, .inl (cI, (q_half hv), .inl (fun _ => 0)))] H := hP
  have hD : va_D Aq [(h0, .inr (1, [.int (nI (q_half hv)), .null, .null, .int 0, .int 0, .int 0])), (q13, .inr (0, [.ref u21.1, .ref u21.2.1, .ref u21.2.2, .int (nI (q_half hv))])), (u21.1, .inl (cI, (q_half hv), .inl (fun _ => 0))), (u21.2.1, .inl (cI, (q_half hv), .inl (fun _ => 0))), (u21.2.2, .inl (cI, (q_half hv), .inl (fun _ => 0)))] := hD
  refine va_put (D := (dC, dI)) (ci := 1) (v := .ref q13) (ty := (.object "StepMap$Table")) (C := RX1) (T := TX1) (N := 6) hx hb hts hin_X1_init_X1 tyX1 tyX1_ok nmX1 hown hK hP hD hS 0 rfl rfl 1 (by decide) (hts (.fieldLink RX1 22 "StepMap" "newTable" "LStepMap$Table;") (by decide +kernel)) (fun _ h9 => h9) rfl (by decide +kernel) (rfl) (rfl) (Nat.le_of_ble_eq_true rfl) dX1_init_24 (fun H locs hP hD hS => ?_)
  have hP : va_P (dC, dI) vwCl [(h0, .inr (1, [.int (nI (q_half hv)), .ref q13, .null, .int 0, .int 0, .int 0])), (q13, .inr (0, [.ref u21.1, .ref u21.2.1, .ref u21.2.2, .int (nI (q_half hv))])), (u21.1, .inl (cI, (q_half hv), .inl (fun _ => 0))), (u21.2.1, .inl (cI, (q_half hv), .inl (fun _ => 0))), (u21.2.2, .inl (cI, (q_half hv), .inl (fun _ => 0)))] H := hP
  have hD : va_D Aq [(h0, .inr (1, [.int (nI (q_half hv)), .ref q13, .null, .int 0, .int 0, .int 0])), (q13, .inr (0, [.ref u21.1, .ref u21.2.1, .ref u21.2.2, .int (nI (q_half hv))])), (u21.1, .inl (cI, (q_half hv), .inl (fun _ => 0))), (u21.2.1, .inl (cI, (q_half hv), .inl (fun _ => 0))), (u21.2.2, .inl (cI, (q_half hv), .inl (fun _ => 0)))] := hD
  refine lv_aload_n hx hb dX1_init_27 rfl (lv_at hl 0 rfl) ?_
  refine va_new (ci := 0) (fs := [.null, .null, .null, .int 0]) (C := RX0) (T := TX0) (N := 4) hx hb hts hin_X1_init_X0 tyX0 tyX0_ok hown (hts (.classLink RX1 17 RX0) (by decide +kernel)) (hts (.instantiable RX0 4) (by decide +kernel)) (hts (.initialized RX0) (by decide +kernel)) hK hP hD hS hA rfl (fun j hj => by rcases (show j = 0 ∨ j = 1 ∨ j = 2 ∨ j = 3 by omega) with rfl | rfl | rfl | rfl <;> rfl) (Nat.le_of_ble_eq_true rfl) (Nat.le_of_ble_eq_true rfl) dX1_init_28 (fun q28 H hP hD hS => ?_)
  have hP : va_P (dC, dI) vwCl [(h0, .inr (1, [.int (nI (q_half hv)), .ref q13, .null, .int 0, .int 0, .int 0])), (q13, .inr (0, [.ref u21.1, .ref u21.2.1, .ref u21.2.2, .int (nI (q_half hv))])), (u21.1, .inl (cI, (q_half hv), .inl (fun _ => 0))), (u21.2.1, .inl (cI, (q_half hv), .inl (fun _ => 0))), (u21.2.2, .inl (cI, (q_half hv), .inl (fun _ => 0))), (q28, .inr (0, [.null, .null, .null, .int 0]))] H := hP
  have hD : va_D Aq [(h0, .inr (1, [.int (nI (q_half hv)), .ref q13, .null, .int 0, .int 0, .int 0])), (q13, .inr (0, [.ref u21.1, .ref u21.2.1, .ref u21.2.2, .int (nI (q_half hv))])), (u21.1, .inl (cI, (q_half hv), .inl (fun _ => 0))), (u21.2.1, .inl (cI, (q_half hv), .inl (fun _ => 0))), (u21.2.2, .inl (cI, (q_half hv), .inl (fun _ => 0))), (q28, .inr (0, [.null, .null, .null, .int 0]))] := hD
  refine lv_dup hx hb dX1_init_31 rfl ?_
  refine lv_aload_n hx hb dX1_init_32 rfl (lv_at hl 0 rfl) ?_
  refine va_get (D := (dC, dI)) (ci := 1) (v := .int (nI (q_half hv))) (C := RX1) (T := TX1) (N := 6) hx hb hts hin_X1_init_X1 hown hK hP 0 rfl rfl 0 (by decide) (hts (.fieldLink RX1 13 "StepMap" "half" "I") (by decide +kernel)) (fun _ h9 => h9) rfl dX1_init_33 ?_
  refine r_inV (wr := [(h0, .inr (1, [.int (nI (q_half hv)), .ref q13, .null, .int 0, .int 0, .int 0])), (q13, .inr (0, [.ref u21.1, .ref u21.2.1, .ref u21.2.2, .int (nI (q_half hv))])), (u21.1, .inl (cI, (q_half hv), .inl (fun _ => 0))), (u21.2.1, .inl (cI, (q_half hv), .inl (fun _ => 0))), (u21.2.2, .inl (cI, (q_half hv), .inl (fun _ => 0)))]) (rest := [.ref q28, .ref h0]) S0 (c_X0_init l dC dI cI q28 (q_half hv) H.size (by omega)) (cwI 1 hts gX1_init_X0_init rfl rfl rfl (hts (.initialized RX0) (by decide +kernel)) (hts (.methodLink RX1 19 yX0_init) (by decide +kernel)) (hts (.instanceMethod yX0_init) (by decide +kernel)) rfl (by decide +kernel) ⟨Nat.le_of_ble_eq_true rfl, Nat.le_of_ble_eq_true rfl⟩) hK hP hD hS hA [5] [0, 1, 2, 3, 4] rfl rfl (by decide) (by decide) (by decide) rfl hl.1 rfl (Nat.le_of_ble_eq_true rfl) dX1_init_36 ⟨Nat.le_of_ble_eq_true rfl, Nat.le_of_ble_eq_true rfl⟩ (fun u36 H locs hu hP hD hS => ?_)
  have hP : va_P (dC, dI) vwCl [(h0, .inr (1, [.int (nI (q_half hv)), .ref q13, .null, .int 0, .int 0, .int 0])), (q13, .inr (0, [.ref u21.1, .ref u21.2.1, .ref u21.2.2, .int (nI (q_half hv))])), (u21.1, .inl (cI, (q_half hv), .inl (fun _ => 0))), (u21.2.1, .inl (cI, (q_half hv), .inl (fun _ => 0))), (u21.2.2, .inl (cI, (q_half hv), .inl (fun _ => 0))), (q28, .inr (0, [.ref u36.1, .ref u36.2.1, .ref u36.2.2, .int (nI (q_half hv))])), (u36.1, .inl (cI, (q_half hv), .inl (fun _ => 0))), (u36.2.1, .inl (cI, (q_half hv), .inl (fun _ => 0))), (u36.2.2, .inl (cI, (q_half hv), .inl (fun _ => 0)))] H := hP
  have hD : va_D Aq [(h0, .inr (1, [.int (nI (q_half hv)), .ref q13, .null, .int 0, .int 0, .int 0])), (q13, .inr (0, [.ref u21.1, .ref u21.2.1, .ref u21.2.2, .int (nI (q_half hv))])), (u21.1, .inl (cI, (q_half hv), .inl (fun _ => 0))), (u21.2.1, .inl (cI, (q_half hv), .inl (fun _ => 0))), (u21.2.2, .inl (cI, (q_half hv), .inl (fun _ => 0))), (q28, .inr (0, [.ref u36.1, .ref u36.2.1, .ref u36.2.2, .int (nI (q_half hv))])), (u36.1, .inl (cI, (q_half hv), .inl (fun _ => 0))), (u36.2.1, .inl (cI, (q_half hv), .inl (fun _ => 0))), (u36.2.2, .inl (cI, (q_half hv), .inl (fun _ => 0)))] := hD
  refine va_put (D := (dC, dI)) (ci := 1) (v := .ref q28) (ty := (.object "StepMap$Table")) (C := RX1) (T := TX1) (N := 6) hx hb hts hin_X1_init_X1 tyX1 tyX1_ok nmX1 hown hK hP hD hS 0 rfl rfl 2 (by decide) (hts (.fieldLink RX1 26 "StepMap" "oldTable" "LStepMap$Table;") (by decide +kernel)) (fun _ h9 => h9) rfl (by decide +kernel) (rfl) (rfl) (Nat.le_of_ble_eq_true rfl) dX1_init_39 (fun H locs hP hD hS => ?_)
  have hP : va_P (dC, dI) vwCl [(h0, .inr (1, [.int (nI (q_half hv)), .ref q13, .ref q28, .int 0, .int 0, .int 0])), (q13, .inr (0, [.ref u21.1, .ref u21.2.1, .ref u21.2.2, .int (nI (q_half hv))])), (u21.1, .inl (cI, (q_half hv), .inl (fun _ => 0))), (u21.2.1, .inl (cI, (q_half hv), .inl (fun _ => 0))), (u21.2.2, .inl (cI, (q_half hv), .inl (fun _ => 0))), (q28, .inr (0, [.ref u36.1, .ref u36.2.1, .ref u36.2.2, .int (nI (q_half hv))])), (u36.1, .inl (cI, (q_half hv), .inl (fun _ => 0))), (u36.2.1, .inl (cI, (q_half hv), .inl (fun _ => 0))), (u36.2.2, .inl (cI, (q_half hv), .inl (fun _ => 0)))] H := hP
  have hD : va_D Aq [(h0, .inr (1, [.int (nI (q_half hv)), .ref q13, .ref q28, .int 0, .int 0, .int 0])), (q13, .inr (0, [.ref u21.1, .ref u21.2.1, .ref u21.2.2, .int (nI (q_half hv))])), (u21.1, .inl (cI, (q_half hv), .inl (fun _ => 0))), (u21.2.1, .inl (cI, (q_half hv), .inl (fun _ => 0))), (u21.2.2, .inl (cI, (q_half hv), .inl (fun _ => 0))), (q28, .inr (0, [.ref u36.1, .ref u36.2.1, .ref u36.2.2, .int (nI (q_half hv))])), (u36.1, .inl (cI, (q_half hv), .inl (fun _ => 0))), (u36.2.1, .inl (cI, (q_half hv), .inl (fun _ => 0))), (u36.2.2, .inl (cI, (q_half hv), .inl (fun _ => 0)))] := hD
  refine lv_aload_n hx hb dX1_init_42 rfl (lv_at hl 0 rfl) ?_
  refine va_get (D := (dC, dI)) (ci := 1) (v := .ref q13) (C := RX1) (T := TX1) (N := 6) hx hb hts hin_X1_init_X1 hown hK hP 0 rfl rfl 1 (by decide) (hts (.fieldLink RX1 22 "StepMap" "newTable" "LStepMap$Table;") (by decide +kernel)) (fun _ h9 => h9) rfl dX1_init_43 ?_
  refine lv_bipush (v := 8) hx hb dX1_init_46 (by decide) ?_
  refine r_muV (wr := [(h0, .inr (1, [.int (nI (q_half hv)), .ref q13, .ref q28, .int 0, .int 0, .int 0])), (q28, .inr (0, [.ref u36.1, .ref u36.2.1, .ref u36.2.2, .int (nI (q_half hv))])), (u36.1, .inl (cI, (q_half hv), .inl (fun _ => 0))), (u36.2.1, .inl (cI, (q_half hv), .inl (fun _ => 0))), (u36.2.2, .inl (cI, (q_half hv), .inl (fun _ => 0)))]) (rest := []) S0 (c_X0_clear l dC dI cI q13 u21.1 u21.2.1 u21.2.2 ((q_half hv)) (q_half hv) (fun _ => 0) (fun _ => 0) (fun _ => 0) 8 H.size hpw (Nat.le_refl _) (by omega) (by omega)) (cwV 1 hts gX1_init_X0_clear rfl rfl rfl (by decide +kernel) ⟨Nat.le_of_ble_eq_true rfl, Nat.le_of_ble_eq_true rfl⟩) hK hP hD hS hA [1, 2, 3, 4] [0, 5, 6, 7, 8] rfl rfl (by decide) (by decide) (by decide) (ci := 0) (q0 := 0) rfl rfl rfl rfl hl.1 rfl (Nat.le_of_ble_eq_true rfl) dX1_init_48 ⟨Nat.le_of_ble_eq_true rfl, Nat.le_of_ble_eq_true rfl⟩ (fun _ H locs hu hP hD hS => ?_)
  have hP : va_P (dC, dI) vwCl [(h0, .inr (1, [.int (nI (q_half hv)), .ref q13, .ref q28, .int 0, .int 0, .int 0])), (q13, .inr (0, [.ref u21.1, .ref u21.2.1, .ref u21.2.2, .int (nI 8)])), (u21.1, .inl (cI, (q_half hv), .inl (q_cl (fun _ => 0) 8))), (u21.2.1, .inl (cI, (q_half hv), .inl (fun _ => 0))), (u21.2.2, .inl (cI, (q_half hv), .inl (fun _ => 0))), (q28, .inr (0, [.ref u36.1, .ref u36.2.1, .ref u36.2.2, .int (nI (q_half hv))])), (u36.1, .inl (cI, (q_half hv), .inl (fun _ => 0))), (u36.2.1, .inl (cI, (q_half hv), .inl (fun _ => 0))), (u36.2.2, .inl (cI, (q_half hv), .inl (fun _ => 0)))] H := hP.sub [0, 5, 6, 7, 8, 1, 2, 3, 4] rfl
  have hD : va_D Aq [(h0, .inr (1, [.int (nI (q_half hv)), .ref q13, .ref q28, .int 0, .int 0, .int 0])), (q13, .inr (0, [.ref u21.1, .ref u21.2.1, .ref u21.2.2, .int (nI 8)])), (u21.1, .inl (cI, (q_half hv), .inl (q_cl (fun _ => 0) 8))), (u21.2.1, .inl (cI, (q_half hv), .inl (fun _ => 0))), (u21.2.2, .inl (cI, (q_half hv), .inl (fun _ => 0))), (q28, .inr (0, [.ref u36.1, .ref u36.2.1, .ref u36.2.2, .int (nI (q_half hv))])), (u36.1, .inl (cI, (q_half hv), .inl (fun _ => 0))), (u36.2.1, .inl (cI, (q_half hv), .inl (fun _ => 0))), (u36.2.2, .inl (cI, (q_half hv), .inl (fun _ => 0)))] := hD.sub [0, 5, 6, 7, 8, 1, 2, 3, 4] (by decide) rfl
  refine lv_aload_n hx hb dX1_init_51 rfl (lv_at hl 0 rfl) ?_
  refine lv_iconst (v := -1) hx hb dX1_init_52 (by decide) ?_
  refine va_put (D := (dC, dI)) (ci := 1) (v := .int (-1)) (ty := .int) (C := RX1) (T := TX1) (N := 6) hx hb hts hin_X1_init_X1 tyX1 tyX1_ok nmX1 hown hK hP hD hS 0 rfl rfl 3 (by decide) (hts (.fieldLink RX1 32 "StepMap" "nextToMove" "I") (by decide +kernel)) (fun _ h9 => h9) rfl (by decide +kernel) (rfl) (rfl) (Nat.le_of_ble_eq_true rfl) dX1_init_53 (fun H locs hP hD hS => ?_)
  have hP : va_P (dC, dI) vwCl [(h0, .inr (1, [.int (nI (q_half hv)), .ref q13, .ref q28, .int (-1), .int 0, .int 0])), (q13, .inr (0, [.ref u21.1, .ref u21.2.1, .ref u21.2.2, .int (nI 8)])), (u21.1, .inl (cI, (q_half hv), .inl (q_cl (fun _ => 0) 8))), (u21.2.1, .inl (cI, (q_half hv), .inl (fun _ => 0))), (u21.2.2, .inl (cI, (q_half hv), .inl (fun _ => 0))), (q28, .inr (0, [.ref u36.1, .ref u36.2.1, .ref u36.2.2, .int (nI (q_half hv))])), (u36.1, .inl (cI, (q_half hv), .inl (fun _ => 0))), (u36.2.1, .inl (cI, (q_half hv), .inl (fun _ => 0))), (u36.2.2, .inl (cI, (q_half hv), .inl (fun _ => 0)))] H := hP
  have hD : va_D Aq [(h0, .inr (1, [.int (nI (q_half hv)), .ref q13, .ref q28, .int (-1), .int 0, .int 0])), (q13, .inr (0, [.ref u21.1, .ref u21.2.1, .ref u21.2.2, .int (nI 8)])), (u21.1, .inl (cI, (q_half hv), .inl (q_cl (fun _ => 0) 8))), (u21.2.1, .inl (cI, (q_half hv), .inl (fun _ => 0))), (u21.2.2, .inl (cI, (q_half hv), .inl (fun _ => 0))), (q28, .inr (0, [.ref u36.1, .ref u36.2.1, .ref u36.2.2, .int (nI (q_half hv))])), (u36.1, .inl (cI, (q_half hv), .inl (fun _ => 0))), (u36.2.1, .inl (cI, (q_half hv), .inl (fun _ => 0))), (u36.2.2, .inl (cI, (q_half hv), .inl (fun _ => 0)))] := hD
  have hP : va_P (dC, dI) vwCl (q_WS cI (q_half hv) h0 (q13, u21.1, u21.2.1, u21.2.2, q28, u36.1, u36.2.1, u36.2.2) (q_s0 (q_half hv))) H := hP
  have hD : va_D Aq (q_WS cI (q_half hv) h0 (q13, u21.1, u21.2.1, u21.2.2, q28, u36.1, u36.2.1, u36.2.2) (q_s0 (q_half hv))) := hD
  refine W.widen (k := 8) (n := 6152) (Nat.le_of_ble_eq_true rfl) (Nat.le_of_ble_eq_true rfl) ?_
  exact W.vret hx hb hr (fun t ht hW => ⟨⟨(q13, u21.1, u21.2.1, u21.2.2, q28, u36.1, u36.2.1, u36.2.2), rfl, trivial, by rw [ht]; exact hP, va_K.moved hW.alike hK, hD⟩, hS.F ht⟩) hS.2.2 dX1_init_56
set_option maxHeartbeats 4000000 in
set_option maxRecDepth 100000 in
theorem lp_X2_init {p : Program} {l : Launch} {e : Env} {s : State} {m : MethodId} {args : Array Value} {below : List Frame} {meth : Method} {c : Code} {Q : State → Prop} {R : Room} {cells slots : Nat} {dC : Nat → ClassId} {dI : Nat → Nat → Nat} {cI : ClassId} {Aq : Nat → Prop} {H0 : Heap} (S0 : CallFix p m c cX2_init 3 s args wsX2_init RX2) (hK : va_K (dC, dI) vwCl [(cI, .int)] s) (hA : ∀ q : Nat, H0.size ≤ q → Aq q) (g0 : Nat) (h : Int32) (R9 : Nat)  {H : Heap} {locs : List Loc} (hP : va_P (dC, dI) vwCl [] H)
    (kk : ∀ (ls : Array Slot), lv_has ls 3 [(0, .ref g0), (1, .int h), (2, .int (nI R9))] → W p l e R s m args below meth c H locs cells slots Q (F0 m 62 ls [])) :
    ∀ (f : Nat) (p2 : Nat), q_HI f p2 ∧ q_hf f h p2 = R9 → ∀ (ls : Array Slot), lv_has ls 3 [(0, .ref g0), (1, .int h), (2, .int (nI p2))] → W p l e R s m args below meth c H locs cells slots Q (F0 m 41 ls []) := by
  obtain ⟨hx, hb, hml, hown, hts⟩ := id S0
  intro f
  induction f with
  | zero =>
    intro p2 hi ls hl
    have hpb := q_HI_b hi.1
    have hp := q_HI_0 hi.1
    refine lv_iload_n hx hb dX2_init_41 rfl (lv_at hl 2 rfl) ?_
    refine lv_sipush (v := 1024) hx hb dX2_init_42 (by decide) ?_
    refine lv_icmp_ge (tgt := 62) hx hb dX2_init_45 (by decide) (fun c_45 => ?_) (fun c_45 => ?_)
    · have h_45 := q_le_t (a := 1024) (b := p2) (by omega) (by omega) c_45
      have e1 : p2 = R9 := by rw [← hi.2]; exact rfl
      subst e1
      exact kk ls (lv_sub hl [0, 1, 2] rfl)
    · have h_45 := q_le_f (a := 1024) (b := p2) (by omega) (by omega) c_45
      omega
  | succ f ih =>
    intro p2 hi ls hl
    have hpb := q_HI_b hi.1
    have hp := q_HI_1 hi.1
    refine lv_iload_n hx hb dX2_init_41 rfl (lv_at hl 2 rfl) ?_
    refine lv_sipush (v := 1024) hx hb dX2_init_42 (by decide) ?_
    refine lv_icmp_ge (tgt := 62) hx hb dX2_init_45 (by decide) (fun c_45 => ?_) (fun c_45 => ?_)
    · have h_45 := q_le_t (a := 1024) (b := p2) (by omega) (by omega) c_45
      omega
    · have h_45 := q_le_f (a := 1024) (b := p2) (by omega) (by omega) c_45
      refine lv_iload_n hx hb dX2_init_48 rfl (lv_at hl 2 rfl) ?_
      refine lv_iload_n hx hb dX2_init_49 rfl (lv_at hl 1 rfl) ?_
      refine lv_iconst (v := 2) hx hb dX2_init_50 (by decide) ?_
      refine lv_idiv hx hb dX2_init_51 (by decide) ?_
      refine lv_icmp_gt (tgt := 62) hx hb dX2_init_52 (by decide) (fun c_52 => ?_) (fun c_52 => ?_)
      · have c_52 := q_ge_of c_52
        have e1 : p2 = R9 := by rw [← hi.2, q_hf_0 (fun z => c_52 ((q_half2 hi.1).mpr z))]
        subst e1
        exact kk ls (lv_sub hl [0, 1, 2] rfl)
      · refine lv_iload_n hx hb dX2_init_55 rfl (lv_at hl 2 rfl) ?_
        refine lv_iload_n hx hb dX2_init_56 rfl (lv_at hl 2 rfl) ?_
        refine lv_iadd hx hb dX2_init_57 ?_
        refine r_eq (z := nI (p2 + p2)) (nI_add p2 p2) ?_
        refine r_eq (z := nI (p2 * 2)) (congrArg nI (by omega)) ?_
        refine lv_istore_n (lv' := [(2, .int (nI (p2 * 2))), (0, .ref g0), (1, .int h)]) hx hb dX2_init_58 rfl hl (by decide) rfl (fun ls hl => ?_)
        refine lv_goto (tgt := 41) hx hb dX2_init_59 (by decide) ?_
        exact ih (p2 * 2) ⟨q_HI_s hi.1, by rw [← hi.2, q_hf_1 ((q_half2 hi.1).mp (Classical.byContradiction fun z => c_52 (q_lt_of z)))]⟩ ls (lv_sub hl [1, 2, 0] rfl)
set_option maxHeartbeats 4000000 in
set_option maxRecDepth 100000 in
theorem c_X2_init (l : Launch) (dC : Nat → ClassId) (dI : Nat → Nat → Nat) (cI : ClassId) (g0 : Nat) (h : Int32) (sz : Nat)  : Met l yX2_init wsX2_init ({ frames := 1, cells := 4, slots := 6146, locals := 12 }) (r_Mc (dC, dI) vwCl [(cI, .int)] [(g0, .inr (2, [.int 0, .int 0, .null, .null, .null, .null, .int 0, .int 0, .int 0, .int 0, .int 0, .int 0]))] sz [.ref g0, .int h]) (va_Qv (fun (_ : Nat × Nat × Nat × Nat) => True) (fun u t => r_B (dC, dI) vwCl [(cI, .int)] (va_A [(g0, .inr (2, [.int 0, .int 0, .null, .null, .null, .null, .int 0, .int 0, .int 0, .int 0, .int 0, .int 0]))] sz) ((fun u => q_WM cI g0 u.1 u.2.1 u.2.2.1 u.2.2.2 (q_half h) q_u0 (q_s0 (q_half h))) u) t) (va_A [(g0, .inr (2, [.int 0, .int 0, .null, .null, .null, .null, .int 0, .int 0, .int 0, .int 0, .int 0, .int 0]))] sz)) 4 6146 (va_A [(g0, .inr (2, [.int 0, .int 0, .null, .null, .null, .null, .int 0, .int 0, .int 0, .int 0, .int 0, .int 0]))] sz) := by
  refine Met.ofW (cc := cX2_init) (maxL := 3) (ret := none) (by decide) rfl ?_
  intro p e s m args below meth c s₁ Bd hml hv
  obtain ⟨rfl, hsz, hP, hK, hD0⟩ := hv
  have hx := Bd.exec
  have hb := Bd.bytes
  have hr := Bd.returns
  have hts := atoms_spec (ws := wsX2_init) Bd.pre
  have hown : s.vm.findClass RX2 = some m.cls := findClass_of_methodNamed Bd.named
  have hlocks := Bd.notSynchronized
  have hin : meth.name = "<init>" := (name_of_methodNamed Bd.named Bd.method).1
  have S0 : CallFix p m c cX2_init 3 s _ wsX2_init RX2 := ⟨hx, hb, hml, hown, hts⟩
  subst hsz
  have hD := hD0.self (sz := s.heap.size)
  generalize hAe : va_A [(g0, .inr (2, [.int 0, .int 0, .null, .null, .null, .null, .int 0, .int 0, .int 0, .int 0, .int 0, .int 0]))] s.heap.size = Aq at hD ⊢
  have hA : ∀ q : Nat, s.heap.size ≤ q → Aq q := fun q h => by rw [← hAe]; exact Or.inr h
  have hS : va_S Aq s.heap s.heap [] := va_S.rf
  have hD : va_D Aq [(g0, .inr (2, [.int 0, .int 0, .null, .null, .null, .null, .int 0, .int 0, .int 0, .int 0, .int 0, .int 0]))] := hD
  have hP : va_P (dC, dI) vwCl [(g0, .inr (2, [.int 0, .int 0, .null, .null, .null, .null, .int 0, .int 0, .int 0, .int 0, .int 0, .int 0]))] s.heap := hP
  have hl := lv_entry ([.ref g0, .int h]) (n := 3) (Nat.le_of_ble_eq_true rfl)
  rw [lg_entry_eq]
  generalize (lg_sl ([.ref g0, .int h]) ++ List.replicate (3 - (lg_sl ([.ref g0, .int h])).length) Slot.unset).toArray = ls at hl ⊢
  have hl : lv_has ls 3 [(0, .ref g0), (1, .int h)] := hl
  refine lv_aload_n hx hb dX2_init_0 rfl (lv_at hl 0 rfl) ?_
  refine W.objInit hx hb hown (hts (.methodLink RX2 1 objectInit) (by decide +kernel)) (hts (.instanceMethod objectInit) (by decide +kernel)) (hts (.code objectInit ⟨#[0xb1]⟩ 1 none) (by decide +kernel)) rfl (by rw [hml]; exact hl.1) rfl dX2_init_1 (Nat.le_of_ble_eq_true rfl) (Nat.le_of_ble_eq_true rfl) ?_
  refine W.eq (g2 := F0 m 4 ls []) rfl ?_
  refine lv_aload_n hx hb dX2_init_4 rfl (lv_at hl 0 rfl) ?_
  refine lv_sipush (v := 2048) hx hb dX2_init_5 (by decide) ?_
  refine va_newa (atype := .int) (ty := .int) (N' := 2048) (a0 := (2048, .inl (fun _ => 0))) hx hb (hts (.arrayClass .int) (by decide +kernel)) rfl hK hP hD hS hA (fun _ => rfl) (nI_pos (n := 2048) (by omega)) (nI_clamp (n := 2048) (by omega)) (by show 2048 * 4 ≤ 536870912; omega) (Nat.le_of_ble_eq_true rfl) (Nat.le_of_ble_eq_true rfl) dX2_init_8 (fun q8 cA H hK2 hP hD hS => ?_)
  have ec : cI = cA := (r_arr (t1 := 0) (t2 := 1) hK hK2 rfl rfl).symm
  subst ec
  have hP : va_P (dC, dI) vwCl [(g0, .inr (2, [.int 0, .int 0, .null, .null, .null, .null, .int 0, .int 0, .int 0, .int 0, .int 0, .int 0])), (q8, .inl (cI, 2048, .inl (fun _ => 0)))] H := hP
  have hD : va_D Aq [(g0, .inr (2, [.int 0, .int 0, .null, .null, .null, .null, .int 0, .int 0, .int 0, .int 0, .int 0, .int 0])), (q8, .inl (cI, 2048, .inl (fun _ => 0)))] := hD
  refine va_putF (D := (dC, dI)) (ci := 2) (v := .ref q8) (ty := (.array .int)) (C := RX2) (T := TX2) (N := 12) hx hb hts hin_X2_init_X2 tyX2 tyX2_ok nmX2 hown hK hP hD hS 0 rfl rfl 2 (by decide) (hts (.fieldLink RX2 7 "StepMapModel" "states" "[I") (by decide +kernel)) (fun _ h9 => h9) rfl hin rfl (by decide +kernel) (rfl) (rfl) (Nat.le_of_ble_eq_true rfl) dX2_init_10 (fun H locs hP hD hS => ?_)
  have hP : va_P (dC, dI) vwCl [(g0, .inr (2, [.int 0, .int 0, .ref q8, .null, .null, .null, .int 0, .int 0, .int 0, .int 0, .int 0, .int 0])), (q8, .inl (cI, 2048, .inl (fun _ => 0)))] H := hP
  have hD : va_D Aq [(g0, .inr (2, [.int 0, .int 0, .ref q8, .null, .null, .null, .int 0, .int 0, .int 0, .int 0, .int 0, .int 0])), (q8, .inl (cI, 2048, .inl (fun _ => 0)))] := hD
  refine lv_aload_n hx hb dX2_init_13 rfl (lv_at hl 0 rfl) ?_
  refine lv_sipush (v := 2048) hx hb dX2_init_14 (by decide) ?_
  refine va_newa (atype := .int) (ty := .int) (N' := 2048) (a0 := (2048, .inl (fun _ => 0))) hx hb (hts (.arrayClass .int) (by decide +kernel)) rfl hK hP hD hS hA (fun _ => rfl) (nI_pos (n := 2048) (by omega)) (nI_clamp (n := 2048) (by omega)) (by show 2048 * 4 ≤ 536870912; omega) (Nat.le_of_ble_eq_true rfl) (Nat.le_of_ble_eq_true rfl) dX2_init_17 (fun q17 cA H hK2 hP hD hS => ?_)
  have ec : cI = cA := (r_arr (t1 := 0) (t2 := 1) hK hK2 rfl rfl).symm
  subst ec
  have hP : va_P (dC, dI) vwCl [(g0, .inr (2, [.int 0, .int 0, .ref q8, .null, .null, .null, .int 0, .int 0, .int 0, .int 0, .int 0, .int 0])), (q8, .inl (cI, 2048, .inl (fun _ => 0))), (q17, .inl (cI, 2048, .inl (fun _ => 0)))] H := hP
  have hD : va_D Aq [(g0, .inr (2, [.int 0, .int 0, .ref q8, .null, .null, .null, .int 0, .int 0, .int 0, .int 0, .int 0, .int 0])), (q8, .inl (cI, 2048, .inl (fun _ => 0))), (q17, .inl (cI, 2048, .inl (fun _ => 0)))] := hD
  refine va_putF (D := (dC, dI)) (ci := 2) (v := .ref q17) (ty := (.array .int)) (C := RX2) (T := TX2) (N := 12) hx hb hts hin_X2_init_X2 tyX2 tyX2_ok nmX2 hown hK hP hD hS 0 rfl rfl 3 (by decide) (hts (.fieldLink RX2 13 "StepMapModel" "keys" "[I") (by decide +kernel)) (fun _ h9 => h9) rfl hin rfl (by decide +kernel) (rfl) (rfl) (Nat.le_of_ble_eq_true rfl) dX2_init_19 (fun H locs hP hD hS => ?_)
  have hP : va_P (dC, dI) vwCl [(g0, .inr (2, [.int 0, .int 0, .ref q8, .ref q17, .null, .null, .int 0, .int 0, .int 0, .int 0, .int 0, .int 0])), (q8, .inl (cI, 2048, .inl (fun _ => 0))), (q17, .inl (cI, 2048, .inl (fun _ => 0)))] H := hP
  have hD : va_D Aq [(g0, .inr (2, [.int 0, .int 0, .ref q8, .ref q17, .null, .null, .int 0, .int 0, .int 0, .int 0, .int 0, .int 0])), (q8, .inl (cI, 2048, .inl (fun _ => 0))), (q17, .inl (cI, 2048, .inl (fun _ => 0)))] := hD
  refine lv_aload_n hx hb dX2_init_22 rfl (lv_at hl 0 rfl) ?_
  refine lv_sipush (v := 2048) hx hb dX2_init_23 (by decide) ?_
  refine va_newa (atype := .int) (ty := .int) (N' := 2048) (a0 := (2048, .inl (fun _ => 0))) hx hb (hts (.arrayClass .int) (by decide +kernel)) rfl hK hP hD hS hA (fun _ => rfl) (nI_pos (n := 2048) (by omega)) (nI_clamp (n := 2048) (by omega)) (by show 2048 * 4 ≤ 536870912; omega) (Nat.le_of_ble_eq_true rfl) (Nat.le_of_ble_eq_true rfl) dX2_init_26 (fun q26 cA H hK2 hP hD hS => ?_)
  have ec : cI = cA := (r_arr (t1 := 0) (t2 := 1) hK hK2 rfl rfl).symm
  subst ec
  have hP : va_P (dC, dI) vwCl [(g0, .inr (2, [.int 0, .int 0, .ref q8, .ref q17, .null, .null, .int 0, .int 0, .int 0, .int 0, .int 0, .int 0])), (q8, .inl (cI, 2048, .inl (fun _ => 0))), (q17, .inl (cI, 2048, .inl (fun _ => 0))), (q26, .inl (cI, 2048, .inl (fun _ => 0)))] H := hP
  have hD : va_D Aq [(g0, .inr (2, [.int 0, .int 0, .ref q8, .ref q17, .null, .null, .int 0, .int 0, .int 0, .int 0, .int 0, .int 0])), (q8, .inl (cI, 2048, .inl (fun _ => 0))), (q17, .inl (cI, 2048, .inl (fun _ => 0))), (q26, .inl (cI, 2048, .inl (fun _ => 0)))] := hD
  refine va_putF (D := (dC, dI)) (ci := 2) (v := .ref q26) (ty := (.array .int)) (C := RX2) (T := TX2) (N := 12) hx hb hts hin_X2_init_X2 tyX2 tyX2_ok nmX2 hown hK hP hD hS 0 rfl rfl 4 (by decide) (hts (.fieldLink RX2 16 "StepMapModel" "values" "[I") (by decide +kernel)) (fun _ h9 => h9) rfl hin rfl (by decide +kernel) (rfl) (rfl) (Nat.le_of_ble_eq_true rfl) dX2_init_28 (fun H locs hP hD hS => ?_)
  have hP : va_P (dC, dI) vwCl [(g0, .inr (2, [.int 0, .int 0, .ref q8, .ref q17, .ref q26, .null, .int 0, .int 0, .int 0, .int 0, .int 0, .int 0])), (q8, .inl (cI, 2048, .inl (fun _ => 0))), (q17, .inl (cI, 2048, .inl (fun _ => 0))), (q26, .inl (cI, 2048, .inl (fun _ => 0)))] H := hP
  have hD : va_D Aq [(g0, .inr (2, [.int 0, .int 0, .ref q8, .ref q17, .ref q26, .null, .int 0, .int 0, .int 0, .int 0, .int 0, .int 0])), (q8, .inl (cI, 2048, .inl (fun _ => 0))), (q17, .inl (cI, 2048, .inl (fun _ => 0))), (q26, .inl (cI, 2048, .inl (fun _ => 0)))] := hD
  refine lv_aload_n hx hb dX2_init_31 rfl (lv_at hl 0 rfl) ?_
  refine lv_iconst (v := 2) hx hb dX2_init_32 (by decide) ?_
  refine va_newa (atype := .int) (ty := .int) (N' := 2) (a0 := (2, .inl (fun _ => 0))) hx hb (hts (.arrayClass .int) (by decide +kernel)) rfl hK hP hD hS hA (fun _ => rfl) (nI_pos (n := 2) (by omega)) (nI_clamp (n := 2) (by omega)) (by show 2 * 4 ≤ 536870912; omega) (Nat.le_of_ble_eq_true rfl) (Nat.le_of_ble_eq_true rfl) dX2_init_33 (fun q33 cA H hK2 hP hD hS => ?_)
  have ec : cI = cA := (r_arr (t1 := 0) (t2 := 1) hK hK2 rfl rfl).symm
  subst ec
  have hP : va_P (dC, dI) vwCl [(g0, .inr (2, [.int 0, .int 0, .ref q8, .ref q17, .ref q26, .null, .int 0, .int 0, .int 0, .int 0, .int 0, .int 0])), (q8, .inl (cI, 2048, .inl (fun _ => 0))), (q17, .inl (cI, 2048, .inl (fun _ => 0))), (q26, .inl (cI, 2048, .inl (fun _ => 0))), (q33, .inl (cI, 2, .inl (fun _ => 0)))] H := hP
  have hD : va_D Aq [(g0, .inr (2, [.int 0, .int 0, .ref q8, .ref q17, .ref q26, .null, .int 0, .int 0, .int 0, .int 0, .int 0, .int 0])), (q8, .inl (cI, 2048, .inl (fun _ => 0))), (q17, .inl (cI, 2048, .inl (fun _ => 0))), (q26, .inl (cI, 2048, .inl (fun _ => 0))), (q33, .inl (cI, 2, .inl (fun _ => 0)))] := hD
  refine va_putF (D := (dC, dI)) (ci := 2) (v := .ref q33) (ty := (.array .int)) (C := RX2) (T := TX2) (N := 12) hx hb hts hin_X2_init_X2 tyX2 tyX2_ok nmX2 hown hK hP hD hS 0 rfl rfl 5 (by decide) (hts (.fieldLink RX2 19 "StepMapModel" "sizes" "[I") (by decide +kernel)) (fun _ h9 => h9) rfl hin rfl (by decide +kernel) (rfl) (rfl) (Nat.le_of_ble_eq_true rfl) dX2_init_35 (fun H locs hP hD hS => ?_)
  have hP : va_P (dC, dI) vwCl [(g0, .inr (2, [.int 0, .int 0, .ref q8, .ref q17, .ref q26, .ref q33, .int 0, .int 0, .int 0, .int 0, .int 0, .int 0])), (q8, .inl (cI, 2048, .inl (fun _ => 0))), (q17, .inl (cI, 2048, .inl (fun _ => 0))), (q26, .inl (cI, 2048, .inl (fun _ => 0))), (q33, .inl (cI, 2, .inl (fun _ => 0)))] H := hP
  have hD : va_D Aq [(g0, .inr (2, [.int 0, .int 0, .ref q8, .ref q17, .ref q26, .ref q33, .int 0, .int 0, .int 0, .int 0, .int 0, .int 0])), (q8, .inl (cI, 2048, .inl (fun _ => 0))), (q17, .inl (cI, 2048, .inl (fun _ => 0))), (q26, .inl (cI, 2048, .inl (fun _ => 0))), (q33, .inl (cI, 2, .inl (fun _ => 0)))] := hD
  refine lv_bipush (v := 8) hx hb dX2_init_38 (by decide) ?_
  refine lv_istore_n (lv' := [(2, .int 8), (0, .ref g0), (1, .int h)]) hx hb dX2_init_40 rfl hl (by decide) rfl (fun ls hl => ?_)
  refine lp_X2_init (Aq := Aq) (H0 := s.heap) S0 hK hA g0 h (q_half h) (hP.sub [] rfl) (fun ls hl => ?_) 7 8 ⟨by unfold q_HI; omega, rfl⟩ ls (lv_sub hl [1, 2, 0] rfl)
  refine lv_aload_n hx hb dX2_init_62 rfl (lv_at hl 0 rfl) ?_
  refine lv_iload_n hx hb dX2_init_63 rfl (lv_at hl 2 rfl) ?_
  refine va_putF (D := (dC, dI)) (ci := 2) (v := .int (nI (q_half h))) (ty := .int) (C := RX2) (T := TX2) (N := 12) hx hb hts hin_X2_init_X2 tyX2 tyX2_ok nmX2 hown hK hP hD hS 0 rfl rfl 1 (by decide) (hts (.fieldLink RX2 22 "StepMapModel" "half" "I") (by decide +kernel)) (fun _ h9 => h9) rfl hin rfl (by decide +kernel) (rfl) (rfl) (Nat.le_of_ble_eq_true rfl) dX2_init_64 (fun H locs hP hD hS => ?_)
  have hP : va_P (dC, dI) vwCl [(g0, .inr (2, [.int 0, .int (nI (q_half h)), .ref q8, .ref q17, .ref q26, .ref q33, .int 0, .int 0, .int 0, .int 0, .int 0, .int 0])), (q8, .inl (cI, 2048, .inl (fun _ => 0))), (q17, .inl (cI, 2048, .inl (fun _ => 0))), (q26, .inl (cI, 2048, .inl (fun _ => 0))), (q33, .inl (cI, 2, .inl (fun _ => 0)))] H := hP
  have hD : va_D Aq [(g0, .inr (2, [.int 0, .int (nI (q_half h)), .ref q8, .ref q17, .ref q26, .ref q33, .int 0, .int 0, .int 0, .int 0, .int 0, .int 0])), (q8, .inl (cI, 2048, .inl (fun _ => 0))), (q17, .inl (cI, 2048, .inl (fun _ => 0))), (q26, .inl (cI, 2048, .inl (fun _ => 0))), (q33, .inl (cI, 2, .inl (fun _ => 0)))] := hD
  refine lv_aload_n hx hb dX2_init_67 rfl (lv_at hl 0 rfl) ?_
  refine va_get (D := (dC, dI)) (ci := 2) (v := .ref q33) (C := RX2) (T := TX2) (N := 12) hx hb hts hin_X2_init_X2 hown hK hP 0 rfl rfl 5 (by decide) (hts (.fieldLink RX2 19 "StepMapModel" "sizes" "[I") (by decide +kernel)) (fun _ h9 => h9) rfl dX2_init_68 ?_
  refine lv_iconst (v := 0) hx hb dX2_init_71 (by decide) ?_
  refine lv_bipush (v := 8) hx hb dX2_init_72 (by decide) ?_
  refine r_st (i := 0) hx hb hK hP hD hS 4 0 rfl rfl (by omega) (by omega) dX2_init_74 (fun H locs hP hD hS => ?_)
  have hP : va_P (dC, dI) vwCl [(g0, .inr (2, [.int 0, .int (nI (q_half h)), .ref q8, .ref q17, .ref q26, .ref q33, .int 0, .int 0, .int 0, .int 0, .int 0, .int 0])), (q8, .inl (cI, 2048, .inl (fun _ => 0))), (q17, .inl (cI, 2048, .inl (fun _ => 0))), (q26, .inl (cI, 2048, .inl (fun _ => 0))), (q33, .inl (cI, 2, .inl (upd (fun _ => 0) 0 8)))] H := hP
  have hD : va_D Aq [(g0, .inr (2, [.int 0, .int (nI (q_half h)), .ref q8, .ref q17, .ref q26, .ref q33, .int 0, .int 0, .int 0, .int 0, .int 0, .int 0])), (q8, .inl (cI, 2048, .inl (fun _ => 0))), (q17, .inl (cI, 2048, .inl (fun _ => 0))), (q26, .inl (cI, 2048, .inl (fun _ => 0))), (q33, .inl (cI, 2, .inl (upd (fun _ => 0) 0 8)))] := hD
  have hP : va_P (dC, dI) vwCl (q_WM cI g0 q8 q17 q26 q33 (q_half h) q_u0 (q_s0 (q_half h))) H := hP
  have hD : va_D Aq (q_WM cI g0 q8 q17 q26 q33 (q_half h) q_u0 (q_s0 (q_half h))) := hD
  refine W.widen (k := 4) (n := 6146) (Nat.le_of_ble_eq_true rfl) (Nat.le_of_ble_eq_true rfl) ?_
  exact W.vret hx hb hr (fun t ht hW => ⟨⟨(q8, q17, q26, q33), rfl, trivial, by rw [ht]; exact hP, va_K.moved hW.alike hK, hD⟩, hS.F ht⟩) hS.2.2 dX2_init_75
