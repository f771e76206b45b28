/-! SPEC: what the map's calls answer and leave, in the words of PURE -/
theorem q_nx_m1 {nx : Option Nat} (hc : ∀ c, nx = some c → c < 2 ^ 31) : q_nx nx = -1 ↔ ¬ nx.isSome = true := by
  cases nx with
  | none => exact ⟨fun _ z => (by cases z), fun _ => rfl⟩
  | some c => exact ⟨fun z => absurd z (q_nI_m1 (hc c rfl)), fun z => absurd rfl z⟩
def q_place (A B : q_TB) (nx : Option Nat) (k : Int32) : Int32 := if q_hit A k then nI (q_lkE A k) else if q_hitB B nx k then nI (2000 + q_lkE B k) else -1 - nI (q_lkE A k)
theorem q_lw_A {A B : q_TB} {nx : Option Nat} {k : Int32} (h : q_hit A k) : q_lw A B nx k = q_lkD A k + 1 := if_pos h
theorem q_lw_B {A B : q_TB} {nx : Option Nat} {k : Int32} (h : ¬ q_hit A k) (hx : nx.isSome = true) : q_lw A B nx k = q_lkD A k + 1 + (q_lkD B k + 1) := by
  unfold q_lw; rw [if_neg h, if_pos hx]
theorem q_lw_N {A B : q_TB} {nx : Option Nat} {k : Int32} (h : ¬ q_hit A k) (hx : ¬ nx.isSome = true) : q_lw A B nx k = q_lkD A k + 1 := by
  unfold q_lw; rw [if_neg h, if_neg hx]
theorem q_place_A {A B : q_TB} {nx : Option Nat} {k : Int32} (h : q_hit A k) : q_place A B nx k = nI (q_lkE A k) := if_pos h
theorem q_place_B {A B : q_TB} {nx : Option Nat} {k : Int32} (h : ¬ q_hit A k) (hb : q_hitB B nx k) : q_place A B nx k = nI (2000 + q_lkE B k) := by
  unfold q_place; rw [if_neg h, if_pos hb]
theorem q_place_N {A B : q_TB} {nx : Option Nat} {k : Int32} (h : ¬ q_hit A k) (hb : ¬ q_hitB B nx k) : q_place A B nx k = -1 - nI (q_lkE A k) := by
  unfold q_place; rw [if_neg h, if_neg hb]
theorem q_place_c (A B : q_TB) (nx : Option Nat) (k : Int32) : (q_hit A k ∧ q_place A B nx k = nI (q_lkE A k)) ∨ (¬ q_hit A k ∧ q_hitB B nx k ∧ q_place A B nx k = nI (2000 + q_lkE B k)) ∨ (¬ q_hit A k ∧ ¬ q_hitB B nx k ∧ q_place A B nx k = -1 - nI (q_lkE A k)) := by
  by_cases h : q_hit A k
  · exact Or.inl ⟨h, q_place_A h⟩
  · by_cases hb : q_hitB B nx k
    · exact Or.inr (Or.inl ⟨h, hb, q_place_B h hb⟩)
    · exact Or.inr (Or.inr ⟨h, hb, q_place_N h hb⟩)
theorem q_mvs_1 {X Y : q_TB} {f i : Nat} (h : Y.2.1 i = 2) : q_mvs (f + 1) X Y i = ((q_mvs f (q_fl X (q_lkE X (Y.2.2.1 i)) (Y.2.2.1 i) (Y.2.2.2 i)) (q_tk Y i) (i + 1)).1, (q_mvs f (q_fl X (q_lkE X (Y.2.2.1 i)) (Y.2.2.1 i) (Y.2.2.2 i)) (q_tk Y i) (i + 1)).2.1, q_lkD X (Y.2.2.1 i) + 2 + (q_mvs f (q_fl X (q_lkE X (Y.2.2.1 i)) (Y.2.2.1 i) (Y.2.2.2 i)) (q_tk Y i) (i + 1)).2.2) := by
  rw [show q_mvs (f + 1) X Y i = ((q_mvs f (q_mv X Y i).1 (q_mv X Y i).2.1 (i + 1)).1, (q_mvs f (q_mv X Y i).1 (q_mv X Y i).2.1 (i + 1)).2.1, (q_mv X Y i).2.2 + (q_mvs f (q_mv X Y i).1 (q_mv X Y i).2.1 (i + 1)).2.2) from rfl, q_mv_1 h]
theorem q_mvs_0 {X Y : q_TB} {f i : Nat} (h : ¬ Y.2.1 i = 2) : q_mvs (f + 1) X Y i = ((q_mvs f X Y (i + 1)).1, (q_mvs f X Y (i + 1)).2.1, 1 + (q_mvs f X Y (i + 1)).2.2) := by
  rw [show q_mvs (f + 1) X Y i = ((q_mvs f (q_mv X Y i).1 (q_mv X Y i).2.1 (i + 1)).1, (q_mvs f (q_mv X Y i).1 (q_mv X Y i).2.1 (i + 1)).2.1, (q_mv X Y i).2.2 + (q_mvs f (q_mv X Y i).1 (q_mv X Y i).2.1 (i + 1)).2.2) from rfl, q_mv_0 h]
def q_put (L : Nat) (A B : q_TB) (nx : Option Nat) (kc : Nat) (k v : Int32) : Int32 × q_ST := if q_hit A k then (0, (A.1, A.2.1, A.2.2.1, upd A.2.2.2 (q_lkE A k) v), B, nx, kc, q_lw A B nx k) else if q_hitB B nx k then (0, A, (B.1, B.2.1, B.2.2.1, upd B.2.2.2 (q_lkE B k) v), nx, kc, q_lw A B nx k) else if q_full L A B nx kc then (-2000000001, A, B, nx, kc, q_lw A B nx k) else (0, q_on (q_fl A (q_lkE A k) k v) B nx (kc + 1) (q_lw A B nx k))
theorem q_put_A {L : Nat} {A B : q_TB} {nx : Option Nat} {kc : Nat} {k v : Int32} (h : q_hit A k) : q_put L A B nx kc k v = (0, (A.1, A.2.1, A.2.2.1, upd A.2.2.2 (q_lkE A k) v), B, nx, kc, q_lw A B nx k) := if_pos h
theorem q_put_B {L : Nat} {A B : q_TB} {nx : Option Nat} {kc : Nat} {k v : Int32} (h : ¬ q_hit A k) (hb : q_hitB B nx k) : q_put L A B nx kc k v = (0, A, (B.1, B.2.1, B.2.2.1, upd B.2.2.2 (q_lkE B k) v), nx, kc, q_lw A B nx k) := by
  unfold q_put; rw [if_neg h, if_pos hb]
theorem q_put_F {L : Nat} {A B : q_TB} {nx : Option Nat} {kc : Nat} {k v : Int32} (h : ¬ q_hit A k) (hb : ¬ q_hitB B nx k) (hf : q_full L A B nx kc) : q_put L A B nx kc k v = (-2000000001, A, B, nx, kc, q_lw A B nx k) := by
  unfold q_put; rw [if_neg h, if_neg hb, if_pos hf]
theorem q_put_N {L : Nat} {A B : q_TB} {nx : Option Nat} {kc : Nat} {k v : Int32} (h : ¬ q_hit A k) (hb : ¬ q_hitB B nx k) (hf : ¬ q_full L A B nx kc) : q_put L A B nx kc k v = (0, q_on (q_fl A (q_lkE A k) k v) B nx (kc + 1) (q_lw A B nx k)) := by
  unfold q_put; rw [if_neg h, if_neg hb, if_neg hf]
def q_rem (A B : q_TB) (nx : Option Nat) (kc : Nat) (k : Int32) : Int32 × q_ST := if q_hit A k then (1, q_on (q_fr A (q_lkE A k)).1 B nx (kc - 1) (q_lw A B nx k + ((q_fr A (q_lkE A k)).2 + 1))) else if q_hitB B nx k then (1, q_on A (q_tk B (q_lkE B k)) nx (kc - 1) (q_lw A B nx k)) else (0, A, B, nx, kc, q_lw A B nx k)
theorem q_rem_A {A B : q_TB} {nx : Option Nat} {kc : Nat} {k : Int32} (h : q_hit A k) : q_rem A B nx kc k = (1, q_on (q_fr A (q_lkE A k)).1 B nx (kc - 1) (q_lw A B nx k + ((q_fr A (q_lkE A k)).2 + 1))) := if_pos h
theorem q_rem_B {A B : q_TB} {nx : Option Nat} {kc : Nat} {k : Int32} (h : ¬ q_hit A k) (hb : q_hitB B nx k) : q_rem A B nx kc k = (1, q_on A (q_tk B (q_lkE B k)) nx (kc - 1) (q_lw A B nx k)) := by
  unfold q_rem; rw [if_neg h, if_pos hb]
theorem q_rem_N {A B : q_TB} {nx : Option Nat} {kc : Nat} {k : Int32} (h : ¬ q_hit A k) (hb : ¬ q_hitB B nx k) : q_rem A B nx kc k = (0, A, B, nx, kc, q_lw A B nx k) := by
  unfold q_rem; rw [if_neg h, if_neg hb]
def q_get (A B : q_TB) (nx : Option Nat) (k : Int32) : Int32 := if q_hit A k then A.2.2.2 (q_lkE A k) else if q_hitB B nx k then B.2.2.2 (q_lkE B k) else 0
theorem q_get_A {A B : q_TB} {nx : Option Nat} {k : Int32} (h : q_hit A k) : q_get A B nx k = A.2.2.2 (q_lkE A k) := if_pos h
theorem q_get_B {A B : q_TB} {nx : Option Nat} {k : Int32} (h : ¬ q_hit A k) (hb : q_hitB B nx k) : q_get A B nx k = B.2.2.2 (q_lkE B k) := by
  unfold q_get; rw [if_neg h, if_pos hb]
theorem q_get_N {A B : q_TB} {nx : Option Nat} {k : Int32} (h : ¬ q_hit A k) (hb : ¬ q_hitB B nx k) : q_get A B nx k = 0 := by
  unfold q_get; rw [if_neg h, if_neg hb]
abbrev q_has (A B : q_TB) (nx : Option Nat) (k : Int32) : Prop := q_hit A k ∨ q_hitB B nx k
def q_slot (A B : q_TB) (nx : Option Nat) (k : Int32) : Int32 := if q_hit A k then nI (q_lkE A k) else if q_hitB B nx k then nI (2000 + q_lkE B k) else -1
theorem q_slot_A {A B : q_TB} {nx : Option Nat} {k : Int32} (h : q_hit A k) : q_slot A B nx k = nI (q_lkE A k) := if_pos h
theorem q_slot_B {A B : q_TB} {nx : Option Nat} {k : Int32} (h : ¬ q_hit A k) (hb : q_hitB B nx k) : q_slot A B nx k = nI (2000 + q_lkE B k) := by
  unfold q_slot; rw [if_neg h, if_pos hb]
theorem q_slot_N {A B : q_TB} {nx : Option Nat} {k : Int32} (h : ¬ q_hit A k) (hb : ¬ q_hitB B nx k) : q_slot A B nx k = -1 := by
  unfold q_slot; rw [if_neg h, if_neg hb]
theorem q_on_c {A B : q_TB} {c kc wk : Nat} (h : c + 4 < B.1) : q_on A B (some c) kc wk = ((q_mvs 4 A B c).1, (q_mvs 4 A B c).2.1, some (c + 4), kc, wk + (q_mvs 4 A B c).2.2) := by rw [q_on_s, if_pos h]
theorem q_on_e {A B : q_TB} {c kc wk : Nat} (h : ¬ c + 4 < B.1) : q_on A B (some c) kc wk = q_set0 (q_mvs 4 A B c).1 (q_mvs 4 A B c).2.1 kc (wk + (q_mvs 4 A B c).2.2) := by rw [q_on_s, if_neg h]
theorem q_set0_1 {A B : q_TB} {kc wk : Nat} (h : 3 * A.1 ≤ 4 * kc) : q_set0 A B kc wk = q_start A B (2 * A.1) kc wk := if_pos h
theorem q_set0_2 {A B : q_TB} {kc wk : Nat} (h : ¬ 3 * A.1 ≤ 4 * kc) (h2 : 8 * kc ≤ A.1 ∧ 8 < A.1) : q_set0 A B kc wk = q_start A B (A.1 / 2) kc wk := by
  unfold q_set0; rw [if_neg h, if_pos h2]
theorem q_set0_3 {A B : q_TB} {kc wk : Nat} (h : ¬ 3 * A.1 ≤ 4 * kc) (h2 : ¬ (8 * kc ≤ A.1 ∧ 8 < A.1)) : q_set0 A B kc wk = (A, B, none, kc, wk) := by
  unfold q_set0; rw [if_neg h, if_neg h2]
abbrev q_AD : Type := Nat × Nat × Nat × Nat × Nat × Nat × Nat × Nat
/-- the map's cells: the map, its new table, its old table -/
abbrev q_WS (cI : ClassId) (L h0 : Nat) (a : q_AD) (s : q_ST) : va_W := [(h0, .inr (1, [.int (nI L), .ref a.1, .ref a.2.2.2.2.1, .int (q_nx s.2.2.1), .int (nI s.2.2.2.1), .int (nI s.2.2.2.2)])), (a.1, .inr (0, [.ref a.2.1, .ref a.2.2.1, .ref a.2.2.2.1, .int (nI s.1.1)])), (a.2.1, .inl (cI, L, .inl s.1.2.1)), (a.2.2.1, .inl (cI, L, .inl s.1.2.2.1)), (a.2.2.2.1, .inl (cI, L, .inl s.1.2.2.2)), (a.2.2.2.2.1, .inr (0, [.ref a.2.2.2.2.2.1, .ref a.2.2.2.2.2.2.1, .ref a.2.2.2.2.2.2.2, .int (nI s.2.1.1)])), (a.2.2.2.2.2.1, .inl (cI, L, .inl s.2.1.2.1)), (a.2.2.2.2.2.2.1, .inl (cI, L, .inl s.2.1.2.2.1)), (a.2.2.2.2.2.2.2, .inl (cI, L, .inl s.2.1.2.2.2))]
theorem q_mv_n (A B : q_TB) (c : Nat) : (q_mv A B c).1.1 = A.1 ∧ (q_mv A B c).2.1.1 = B.1 := by
  by_cases h : B.2.1 c = 2
  · rw [q_mv_1 h]; exact ⟨rfl, rfl⟩
  · rw [q_mv_0 h]; exact ⟨rfl, rfl⟩
theorem q_mvs_n : ∀ (j : Nat) (A B : q_TB) (c : Nat), (q_mvs j A B c).1.1 = A.1 ∧ (q_mvs j A B c).2.1.1 = B.1 := by
  intro j
  induction j with
  | zero => intro A B c; exact ⟨rfl, rfl⟩
  | succ j ih =>
    intro A B c
    have a := q_mv_n A B c
    have b := ih (q_mv A B c).1 (q_mv A B c).2.1 (c + 1)
    exact ⟨b.1.trans a.1, b.2.trans a.2⟩
theorem q_fz_n : ∀ (f : Nat) (t : q_TB) (fr i : Nat), (q_fz f t fr i).1.1 = t.1 := by
  intro f
  induction f with
  | zero => intro t fr i; rfl
  | succ f ih =>
    intro t fr i
    by_cases h0 : t.2.1 i = 0
    · rw [q_fz_0 h0]
    · by_cases hb : q_rb t i fr
      · rw [q_fz_1 h0 hb]; exact ih _ _ _
      · rw [q_fz_2 h0 hb]; exact ih _ _ _
theorem q_fr_n (t : q_TB) (e : Nat) : (q_fr t e).1.1 = t.1 := q_fz_n _ _ _ _
theorem q_iv_c {L kc : Nat} {A B : q_TB} {nx : Option Nat} (h : q_IV L A B nx kc) : ∀ c, nx = some c → c < 4096 := by
  intro c hc
  subst hc
  have := q_pw_8 h.1.2.2.2.1
  have := h.2.2.2.2.1
  omega
theorem q_2000 (e : Nat) : nI (2000 + e) - 2000 = nI e := (show nI (2000 + e) - nI 2000 = _ from pk_sub (by omega)).trans (congrArg nI (by omega))
theorem q_neg_lt {e : Nat} (he : e < 2 ^ 30) : (-1 - nI e) < 2000 := by
  have := q_neg1 he
  rw [Int32.lt_iff_toInt_lt, show (0 : Int32).toInt = 0 from by decide] at this
  rw [Int32.lt_iff_toInt_lt, show (2000 : Int32).toInt = 2000 from by decide]
  omega
theorem q_neg_ge {e : Nat} (he : e < 2 ^ 30) : ¬ 0 ≤ (-1 - nI e) := by
  have := q_neg1 he
  rw [Int32.lt_iff_toInt_lt] at this
  rw [Int32.le_iff_toInt_le]
  omega
theorem q_hit_kc {L kc : Nat} {A B : q_TB} {nx : Option Nat} {k : Int32} (h : q_IV L A B nx kc) (hA : q_hit A k) : 1 ≤ kc := by
  have h8 := q_pw_8 h.1.2.1
  have h1 := q_NK_pos hA.1 A.1 (q_lkE_lt k (by omega))
  have h2 := (q_iv_kc h).1
  omega
theorem q_hitB_kc {L kc : Nat} {A B : q_TB} {nx : Option Nat} {k : Int32} (h : q_IV L A B nx kc) (hB : q_hitB B nx k) : 1 ≤ kc := by
  obtain ⟨hx, hB⟩ := hB
  have h8 := q_pw_8 h.1.2.2.2.1
  have h1 := q_NK_pos hB.1 B.1 (q_lkE_lt k (by omega))
  cases nx with
  | none => cases hx
  | some c =>
    have := h.2.2.1
    omega
/-- the map's invariant behind each call -/
theorem q_put_iv {L kc : Nat} {A B : q_TB} {nx : Option Nat} {k v : Int32} (h : q_IV L A B nx kc) : q_iv L (q_put L A B nx kc k v).2 := by
  by_cases hA : q_hit A k
  · rw [q_put_A hA]; exact q_iv_vA h
  · by_cases hB : q_hitB B nx k
    · rw [q_put_B hA hB]; exact q_iv_vB h
    · by_cases hf : q_full L A B nx kc
      · rw [q_put_F hA hB hf]; exact h
      · rw [q_put_N hA hB hf]; exact q_on_iv (q_iw_put h hA hB hf)
theorem q_iw_rmB' {L kc : Nat} {A B : q_TB} {nx : Option Nat} {k : Int32} (h : q_IV L A B nx kc) (hB : q_hitB B nx k) : q_IW L A (q_tk B (q_lkE B k)) nx (kc - 1) := by
  obtain ⟨hx, hB⟩ := hB
  have h8 := q_pw_8 h.1.2.2.2.1
  cases nx with
  | none => cases hx
  | some c => exact q_iw_rmB h (q_lkE_lt k (by omega)) hB.1
theorem q_rem_iv {L kc : Nat} {A B : q_TB} {nx : Option Nat} {k : Int32} (h : q_IV L A B nx kc) : q_iv L (q_rem A B nx kc k).2 := by
  by_cases hA : q_hit A k
  · rw [q_rem_A hA]; exact q_on_iv (q_iw_rmA h hA)
  · by_cases hB : q_hitB B nx k
    · rw [q_rem_B hA hB]; exact q_on_iv (q_iw_rmB' h hB)
    · rw [q_rem_N hA hB]; exact h
theorem q_iw_kc {L kc : Nat} {A B : q_TB} {nx : Option Nat} (h : q_IW L A B nx kc) : kc ≤ 1024 := by
  obtain ⟨hS, h⟩ := h
  have := q_pw_8 hS.2.1
  cases nx with
  | none =>
    obtain ⟨hN, hP, hU, hk, h1, h2⟩ := h
    omega
  | some c =>
    obtain ⟨hM, hk, h1, h2, h3, h4⟩ := h
    omega
