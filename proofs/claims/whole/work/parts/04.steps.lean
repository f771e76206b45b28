/-! PURE: the four slots of a call, the start of a migration, the whole state and what holds of it. State: (new table, old table, cursor, how many keys, work) -/
/-- one slot of the old table moved: new table, old table, slots visited -/
def q_mv (A B : q_TB) (c : Nat) : q_TB × q_TB × Nat := if B.2.1 c = 2 then (q_fl A (q_lkE A (B.2.2.1 c)) (B.2.2.1 c) (B.2.2.2 c), q_tk B c, q_lkD A (B.2.2.1 c) + 2) else (A, B, 1)
theorem q_mv_1 {A B : q_TB} {c : Nat} (h : B.2.1 c = 2) : q_mv A B c = (q_fl A (q_lkE A (B.2.2.1 c)) (B.2.2.1 c) (B.2.2.2 c), q_tk B c, q_lkD A (B.2.2.1 c) + 2) := if_pos h
theorem q_mv_0 {A B : q_TB} {c : Nat} (h : ¬ B.2.1 c = 2) : q_mv A B c = (A, B, 1) := if_neg h
def q_mvs : Nat → q_TB → q_TB → Nat → q_TB × q_TB × Nat
  | 0, A, B, _ => (A, B, 0)
  | j + 1, A, B, c => ((q_mvs j (q_mv A B c).1 (q_mv A B c).2.1 (c + 1)).1, (q_mvs j (q_mv A B c).1 (q_mv A B c).2.1 (c + 1)).2.1, (q_mv A B c).2.2 + (q_mvs j (q_mv A B c).1 (q_mv A B c).2.1 (c + 1)).2.2)
def q_MI (A B : q_TB) (c : Nat) : Prop := 0 < A.1 ∧ q_NT A ∧ q_PB A ∧ q_UQ A ∧ q_PB B ∧ q_UQ B ∧ q_DJ A B ∧ q_EM B ∧ q_NK A.2.1 A.1 + q_NK B.2.1 B.1 < A.1 ∧ ∀ i, i < c → i < B.1 → B.2.1 i ≠ 2
theorem q_MI_EM {A B : q_TB} {c : Nat} (h : q_MI A B c) : q_EM A := q_EM_of h.2.1 (by have := h.2.2.2.2.2.2.2.2.1; omega)
theorem q_MI_miss {A B : q_TB} {c j : Nat} (h : q_MI A B c) (hj : j < B.1) (h2 : B.2.1 j = 2) : ¬ q_hit A (B.2.2.1 j) := fun z => h.2.2.2.2.2.2.1 _ j (q_lkE_lt _ h.1) hj z.1 h2 z.2
theorem q_mv_ok {A B : q_TB} {c : Nat} (h : q_MI A B c) (hc : c < B.1) : (q_mv A B c).1.1 = A.1 ∧ (q_mv A B c).2.1.1 = B.1 ∧ q_MI (q_mv A B c).1 (q_mv A B c).2.1 (c + 1) ∧ q_NK (q_mv A B c).1.2.1 A.1 + q_NK (q_mv A B c).2.1.2.1 B.1 = q_NK A.2.1 A.1 + q_NK B.2.1 B.1 := by
  by_cases h2 : B.2.1 c = 2
  · rw [q_mv_1 h2]
    have hmiss := q_MI_miss h hc h2
    have hE := q_MI_EM h
    obtain ⟨h0, hN, hP, hU, hPB, hUB, hD, hEB, hK, hb⟩ := h
    have he := q_lkE_lt (t := A) (B.2.2.1 c) h0
    have hz := q_lk_miss h0 hE hmiss
    have n1 : q_NK (upd A.2.1 (q_lkE A (B.2.2.1 c)) 2) A.1 = q_NK A.2.1 A.1 + 1 := q_NK_up (by rw [hz]; decide) A.1 he
    have n2 : q_NK B.2.1 B.1 = q_NK (upd B.2.1 c 1) B.1 + 1 := q_NK_dn (by decide) h2 B.1 hc
    refine ⟨rfl, rfl, ⟨h0, q_fl_NT hN, q_fl_PB h0 hP, q_fl_UQ hU (fun j hj hj2 hk => hD j c hj hc hj2 h2 hk), q_tk_PB hPB, q_tk_UQ hUB, ?_, q_tk_EM hEB h2, ?_, ?_⟩, ?_⟩
    · intro i j hi hj hi2 hj2
      obtain ⟨jc, hj2⟩ := q_up_2 (by decide) (show upd B.2.1 c 1 j = 2 from hj2)
      show upd A.2.2.1 (q_lkE A (B.2.2.1 c)) (B.2.2.1 c) i ≠ B.2.2.1 j
      by_cases z : i = q_lkE A (B.2.2.1 c)
      · rw [z, pk_us]
        exact fun y => jc (hUB c j hc hj h2 hj2 y).symm
      · rw [pk_un z]
        exact hD i j hi hj (by rw [← hi2]; exact (pk_un z).symm) hj2
    · show q_NK (upd A.2.1 (q_lkE A (B.2.2.1 c)) 2) A.1 + q_NK (upd B.2.1 c 1) B.1 < A.1
      omega
    · intro i hi hiB
      show upd B.2.1 c 1 i ≠ 2
      by_cases z : i = c
      · subst z; rw [pk_us]; decide
      · rw [pk_un z]; exact hb i (by omega) hiB
    · show q_NK (upd A.2.1 (q_lkE A (B.2.2.1 c)) 2) A.1 + q_NK (upd B.2.1 c 1) B.1 = _
      omega
  · rw [q_mv_0 h2]
    obtain ⟨h0, hN, hP, hU, hPB, hUB, hD, hEB, hK, hb⟩ := h
    refine ⟨rfl, rfl, ⟨h0, hN, hP, hU, hPB, hUB, hD, hEB, hK, fun i hi hiB => ?_⟩, rfl⟩
    rcases Nat.lt_or_ge i c with z | z
    · exact hb i z hiB
    · have : i = c := by omega
      subst this; exact h2
theorem q_mvs_ok : ∀ (j : Nat) (A B : q_TB) (c : Nat), q_MI A B c → c + j ≤ B.1 → (q_mvs j A B c).1.1 = A.1 ∧ (q_mvs j A B c).2.1.1 = B.1 ∧ q_MI (q_mvs j A B c).1 (q_mvs j A B c).2.1 (c + j) ∧ q_NK (q_mvs j A B c).1.2.1 A.1 + q_NK (q_mvs j A B c).2.1.2.1 B.1 = q_NK A.2.1 A.1 + q_NK B.2.1 B.1 := by
  intro j
  induction j with
  | zero => intro A B c h _; exact ⟨rfl, rfl, h, rfl⟩
  | succ j ih =>
    intro A B c h hc
    obtain ⟨a1, a2, a3, a4⟩ := q_mv_ok h (by omega)
    obtain ⟨b1, b2, b3, b4⟩ := ih (q_mv A B c).1 (q_mv A B c).2.1 (c + 1) a3 (by rw [a2]; omega)
    rw [a1] at b1 b4
    rw [a2] at b2 b4
    have b3 : q_MI (q_mvs (j + 1) A B c).1 (q_mvs (j + 1) A B c).2.1 (c + (j + 1)) := by rw [show c + (j + 1) = c + 1 + j by omega]; exact b3
    exact ⟨b1, b2, b3, b4.trans a4⟩
abbrev q_ST : Type := q_TB × q_TB × Option Nat × Nat × Nat
def q_start (A B : q_TB) (q kc wk : Nat) : q_ST := ((q, (fun i => if i < q then 0 else B.2.1 i), B.2.2.1, B.2.2.2), A, some 0, kc, wk)
def q_set0 (A B : q_TB) (kc wk : Nat) : q_ST := if 3 * A.1 ≤ 4 * kc then q_start A B (2 * A.1) kc wk else if 8 * kc ≤ A.1 ∧ 8 < A.1 then q_start A B (A.1 / 2) kc wk else (A, B, none, kc, wk)
/-- what is done behind a put of a key more or a remove of one -/
def q_on (A B : q_TB) (nx : Option Nat) (kc wk : Nat) : q_ST := match nx with
  | none => q_set0 A B kc wk
  | some c => if c + 4 < B.1 then ((q_mvs 4 A B c).1, (q_mvs 4 A B c).2.1, some (c + 4), kc, wk + (q_mvs 4 A B c).2.2) else q_set0 (q_mvs 4 A B c).1 (q_mvs 4 A B c).2.1 kc (wk + (q_mvs 4 A B c).2.2)
theorem q_on_s (A B : q_TB) (c kc wk : Nat) : q_on A B (some c) kc wk = if c + 4 < B.1 then ((q_mvs 4 A B c).1, (q_mvs 4 A B c).2.1, some (c + 4), kc, wk + (q_mvs 4 A B c).2.2) else q_set0 (q_mvs 4 A B c).1 (q_mvs 4 A B c).2.1 kc (wk + (q_mvs 4 A B c).2.2) := rfl
theorem q_on_n (A B : q_TB) (kc wk : Nat) : q_on A B none kc wk = q_set0 A B kc wk := rfl
def q_pw (n : Nat) : Prop := ∃ j, 3 ≤ j ∧ j ≤ 10 ∧ n = 2 ^ j
theorem q_pw_c {n : Nat} (h : q_pw n) : n = 8 ∨ n = 16 ∨ n = 32 ∨ n = 64 ∨ n = 128 ∨ n = 256 ∨ n = 512 ∨ n = 1024 := by
  obtain ⟨j, h1, h2, rfl⟩ := h
  have : j = 3 ∨ j = 4 ∨ j = 5 ∨ j = 6 ∨ j = 7 ∨ j = 8 ∨ j = 9 ∨ j = 10 := by omega
  rcases this with rfl | rfl | rfl | rfl | rfl | rfl | rfl | rfl <;> simp
theorem q_pw_of {n : Nat} (h : n = 8 ∨ n = 16 ∨ n = 32 ∨ n = 64 ∨ n = 128 ∨ n = 256 ∨ n = 512 ∨ n = 1024) : q_pw n := by
  rcases h with rfl | rfl | rfl | rfl | rfl | rfl | rfl | rfl
  · exact ⟨3, by omega, by omega, rfl⟩
  · exact ⟨4, by omega, by omega, rfl⟩
  · exact ⟨5, by omega, by omega, rfl⟩
  · exact ⟨6, by omega, by omega, rfl⟩
  · exact ⟨7, by omega, by omega, rfl⟩
  · exact ⟨8, by omega, by omega, rfl⟩
  · exact ⟨9, by omega, by omega, rfl⟩
  · exact ⟨10, by omega, by omega, rfl⟩
theorem q_pw_8 {n : Nat} (h : q_pw n) : 8 ≤ n ∧ n ≤ 1024 := by have := q_pw_c h; omega
theorem q_pw_4 {n : Nat} (h : q_pw n) : n % 4 = 0 := by have := q_pw_c h; omega
theorem q_pw_dbl {n L : Nat} (h : q_pw n) (hL : q_pw L) (h2 : 2 * n ≤ L) : q_pw (2 * n) := by
  have a := q_pw_c h
  have b := q_pw_8 hL
  apply q_pw_of
  omega
theorem q_pw_hlf {n : Nat} (h : q_pw n) (h8 : 8 < n) : q_pw (n / 2) := by
  have a := q_pw_c h
  apply q_pw_of
  omega
/-- what holds of the sizes, whatever else -/
def q_SZ (L : Nat) (A B : q_TB) : Prop := q_pw L ∧ q_pw A.1 ∧ A.1 ≤ L ∧ q_pw B.1 ∧ B.1 ≤ L
/-- THE INVARIANT between calls -/
def q_IV (L : Nat) (A B : q_TB) (nx : Option Nat) (kc : Nat) : Prop := q_SZ L A B ∧ match nx with
  | none => q_NT A ∧ q_PB A ∧ q_UQ A ∧ kc = q_NK A.2.1 A.1 ∧ 4 * kc < 3 * A.1
  | some c => q_MI A B c ∧ kc = q_NK A.2.1 A.1 + q_NK B.2.1 B.1 ∧ c % 4 = 0 ∧ c < B.1 ∧ 4 * kc + (B.1 - c) ≤ 3 * A.1
/-- what holds ahead of q_on -/
def q_IW (L : Nat) (A B : q_TB) (nx : Option Nat) (kc : Nat) : Prop := q_SZ L A B ∧ match nx with
  | none => q_NT A ∧ q_PB A ∧ q_UQ A ∧ kc = q_NK A.2.1 A.1 ∧ 4 * kc ≤ 3 * A.1 ∧ (4 * kc = 3 * A.1 → 2 * A.1 ≤ L)
  | some c => q_MI A B c ∧ kc = q_NK A.2.1 A.1 + q_NK B.2.1 B.1 ∧ c % 4 = 0 ∧ c < B.1 ∧ 4 * kc + (B.1 - (c + 4)) ≤ 3 * A.1 ∧ (c + 4 = B.1 → 4 * kc = 3 * A.1 → 2 * A.1 ≤ L)
abbrev q_iv (L : Nat) (s : q_ST) : Prop := q_IV L s.1 s.2.1 s.2.2.1 s.2.2.2.1
theorem q_start_iv {L q kc wk : Nat} {A B : q_TB} (hL : q_pw L) (hA : q_pw A.1) (hAL : A.1 ≤ L) (hN : q_NT A) (hP : q_PB A) (hU : q_UQ A) (hk : kc = q_NK A.2.1 A.1) (hq : q_pw q) (hqL : q ≤ L) (hc : 4 * kc + A.1 ≤ 3 * q) (hkA : kc < A.1) (hkq : kc < q) : q_iv L (q_start A B q kc wk) := by
  have hq0 := q_pw_8 hq
  have hA0 := q_pw_8 hA
  have hz : ∀ i, i < q → (fun i => if i < q then (0 : Int32) else B.2.1 i) i = 0 := fun i hi => if_pos hi
  have hz2 : ∀ i, i < q → (fun i => if i < q then (0 : Int32) else B.2.1 i) i ≠ 2 := fun i hi => by rw [hz i hi]; decide
  have hk0 : q_NK (fun i => if i < q then (0 : Int32) else B.2.1 i) q = 0 := q_NK_0 q hz2
  refine ⟨⟨hL, hq, hqL, hA, hAL⟩, ⟨by show 0 < q; omega, fun i hi => Or.inl (hz i hi), fun j hj h2 => absurd h2 (hz2 j hj), fun i j hi hj h2 => absurd h2 (hz2 i hi), hP, hU, fun i j hi hj h2 => absurd h2 (hz2 i hi), (show q_EM A from q_EM_of hN (by omega)), ?_, fun i hi => absurd hi (Nat.not_lt_zero _)⟩, ?_, rfl, by show 0 < A.1; omega, hc⟩
  · show q_NK (fun i => if i < q then (0 : Int32) else B.2.1 i) q + q_NK A.2.1 A.1 < q
    rw [hk0]; omega
  · show kc = q_NK (fun i => if i < q then (0 : Int32) else B.2.1 i) q + q_NK A.2.1 A.1
    rw [hk0]; omega
theorem q_set0_iv {L kc wk : Nat} {A B : q_TB} (hS : q_SZ L A B) (hN : q_NT A) (hP : q_PB A) (hU : q_UQ A) (hk : kc = q_NK A.2.1 A.1) (h1 : 4 * kc ≤ 3 * A.1) (h2 : 4 * kc = 3 * A.1 → 2 * A.1 ≤ L) : q_iv L (q_set0 A B kc wk) := by
  obtain ⟨hL, hA, hAL, hB, hBL⟩ := hS
  have hA0 := q_pw_8 hA
  unfold q_set0
  by_cases c1 : 3 * A.1 ≤ 4 * kc
  · rw [if_pos c1]
    exact q_start_iv hL hA hAL hN hP hU hk (q_pw_dbl hA hL (h2 (by omega))) (h2 (by omega)) (by omega) (by omega) (by omega)
  · rw [if_neg c1]
    by_cases c2 : 8 * kc ≤ A.1 ∧ 8 < A.1
    · rw [if_pos c2]
      have h4 := q_pw_4 hA
      exact q_start_iv hL hA hAL hN hP hU hk (q_pw_hlf hA c2.2) (by omega) (by omega) (by omega) (by omega)
    · rw [if_neg c2]
      exact ⟨⟨hL, hA, hAL, hB, hBL⟩, hN, hP, hU, hk, (show 4 * kc < 3 * A.1 by omega)⟩
theorem q_on_iv {L kc wk : Nat} {A B : q_TB} {nx : Option Nat} (h : q_IW L A B nx kc) : q_iv L (q_on A B nx kc wk) := by
  obtain ⟨hS, h⟩ := h
  cases nx with
  | none =>
    obtain ⟨hN, hP, hU, hk, h1, h2⟩ := h
    exact q_set0_iv hS hN hP hU hk h1 h2
  | some c =>
    obtain ⟨hM, hk, hc4, hc, h1, h2⟩ := h
    have hB4 := q_pw_4 hS.2.2.2.1
    obtain ⟨a1, a2, a3, a4⟩ := q_mvs_ok 4 A B c hM (by omega)
    rw [q_on_s]
    generalize q_mvs 4 A B c = r at a1 a2 a3 a4 ⊢
    obtain ⟨A', B', w⟩ := r
    have a1 : A'.1 = A.1 := a1
    have a2 : B'.1 = B.1 := a2
    have a3 : q_MI A' B' (c + 4) := a3
    have a4 : q_NK A'.2.1 A.1 + q_NK B'.2.1 B.1 = q_NK A.2.1 A.1 + q_NK B.2.1 B.1 := a4
    have hS' : q_SZ L A' B' := by unfold q_SZ; rw [a1, a2]; exact hS
    by_cases z : c + 4 < B.1
    · rw [if_pos z]
      refine ⟨hS', a3, ?_, ?_, ?_, ?_⟩
      · show kc = q_NK A'.2.1 A'.1 + q_NK B'.2.1 B'.1
        rw [a1, a2, a4]; exact hk
      · omega
      · show c + 4 < B'.1
        rw [a2]; exact z
      · show 4 * kc + (B'.1 - (c + 4)) ≤ 3 * A'.1
        rw [a1, a2]; exact h1
    · rw [if_neg z]
      have hnb : q_NK B'.2.1 B.1 = 0 := q_NK_0 B.1 (fun i hi => a3.2.2.2.2.2.2.2.2.2 i (by omega) (by rw [a2]; exact hi))
      have k1 : kc = q_NK A'.2.1 A'.1 := by rw [a1]; omega
      have k2 : 4 * kc ≤ 3 * A'.1 := by rw [a1]; omega
      have k3 : 4 * kc = 3 * A'.1 → 2 * A'.1 ≤ L := by rw [a1]; intro y; exact h2 (by omega) y
      exact q_set0_iv hS' a3.2.1 a3.2.2.1 a3.2.2.2.1 k1 k2 k3
/-- whether one key more would double the table beyond its limit -/
abbrev q_full (L : Nat) (A B : q_TB) (nx : Option Nat) (kc : Nat) : Prop := ¬ (∃ c, nx = some c ∧ c + 4 < B.1) ∧ 3 * A.1 ≤ 4 * (kc + 1) ∧ L < 2 * A.1
abbrev q_hitB (B : q_TB) (nx : Option Nat) (k : Int32) : Prop := nx.isSome = true ∧ q_hit B k
/-- the work of a lookup -/
def q_lw (A B : q_TB) (nx : Option Nat) (k : Int32) : Nat := if q_hit A k then q_lkD A k + 1 else if nx.isSome = true then q_lkD A k + 1 + (q_lkD B k + 1) else q_lkD A k + 1
theorem q_iv_EM {L kc : Nat} {A B : q_TB} {nx : Option Nat} (h : q_IV L A B nx kc) : q_EM A := by
  obtain ⟨hS, h⟩ := h
  have := q_pw_8 hS.2.1
  cases nx with
  | none =>
    obtain ⟨hN, hP, hU, hk, h1⟩ := h
    exact q_EM_of hN (by omega)
  | some c => exact q_MI_EM h.1
theorem q_iv_PU {L kc : Nat} {A B : q_TB} {nx : Option Nat} (h : q_IV L A B nx kc) : q_NT A ∧ q_PB A ∧ q_UQ A := by
  obtain ⟨hS, h⟩ := h
  cases nx with
  | none =>
    obtain ⟨hN, hP, hU, hk, h1⟩ := h
    exact ⟨hN, hP, hU⟩
  | some c => exact ⟨h.1.2.1, h.1.2.2.1, h.1.2.2.2.1⟩
theorem q_iv_kc {L kc : Nat} {A B : q_TB} {nx : Option Nat} (h : q_IV L A B nx kc) : q_NK A.2.1 A.1 ≤ kc ∧ kc ≤ 1024 := by
  obtain ⟨hS, h⟩ := h
  have := q_pw_8 hS.2.1
  cases nx with
  | none =>
    obtain ⟨hN, hP, hU, hk, h1⟩ := h
    omega
  | some c =>
    obtain ⟨hM, hk, h1, h2, h3⟩ := h
    omega
/-- other values of a table's keys -/
theorem q_PB_v {t : q_TB} {V : Nat → Int32} (h : q_PB t) : q_PB (t.1, t.2.1, t.2.2.1, V) := h
theorem q_iv_vA {L kc : Nat} {A B : q_TB} {nx : Option Nat} {V : Nat → Int32} (h : q_IV L A B nx kc) : q_IV L (A.1, A.2.1, A.2.2.1, V) B nx kc := by
  cases nx with
  | none => exact h
  | some c => exact h
theorem q_iv_vB {L kc : Nat} {A B : q_TB} {nx : Option Nat} {V : Nat → Int32} (h : q_IV L A B nx kc) : q_IV L A (B.1, B.2.1, B.2.2.1, V) nx kc := by
  cases nx with
  | none => exact h
  | some c => exact h
/-- a put of a key more, ahead of q_on -/
theorem q_iw_put {L kc : Nat} {A B : q_TB} {nx : Option Nat} {k v : Int32} (h : q_IV L A B nx kc) (hA : ¬ q_hit A k) (hB : ¬ q_hitB B nx k) (hf : ¬ q_full L A B nx kc) : q_IW L (q_fl A (q_lkE A k) k v) B nx (kc + 1) := by
  have hE := q_iv_EM h
  obtain ⟨hN, hP, hU⟩ := q_iv_PU h
  have hk := q_iv_kc h
  obtain ⟨hS, h⟩ := h
  have h8 := q_pw_8 hS.2.1
  have h4 := q_pw_4 hS.2.1
  have h0 : 0 < A.1 := by omega
  have hz := q_lk_miss h0 hE hA
  have he := q_lkE_lt (t := A) k h0
  have n1 : q_NK (upd A.2.1 (q_lkE A k) 2) A.1 = q_NK A.2.1 A.1 + 1 := q_NK_up (by rw [hz]; decide) A.1 he
  have hnA : ∀ j, j < A.1 → A.2.1 j = 2 → A.2.2.1 j ≠ k := fun j hj h2 hk => hA (q_lk_all h0 hP hj h2 hk)
  refine ⟨hS, ?_⟩
  cases nx with
  | none =>
    obtain ⟨-, -, -, hkc, h1⟩ := h
    refine ⟨q_fl_NT hN, q_fl_PB h0 hP, q_fl_UQ hU hnA, ?_, ?_, ?_⟩
    · show kc + 1 = q_NK (upd A.2.1 (q_lkE A k) 2) A.1
      omega
    · show 4 * (kc + 1) ≤ 3 * A.1
      omega
    · intro y
      have y : 4 * (kc + 1) = 3 * A.1 := y
      show 2 * A.1 ≤ L
      refine Nat.le_of_not_lt fun z => hf ⟨?_, by omega, z⟩
      rintro ⟨c, hc, -⟩
      cases hc
  | some c =>
    obtain ⟨hM, hkc, hc4, hc, h1⟩ := h
    have hB4 := q_pw_4 hS.2.2.2.1
    have hB8 := q_pw_8 hS.2.2.2.1
    have hB : ¬ q_hit B k := fun z => hB ⟨rfl, z⟩
    obtain ⟨-, -, -, -, hPB, hUB, hD, hEB, hK, hb⟩ := hM
    refine ⟨⟨h0, q_fl_NT hN, q_fl_PB h0 hP, q_fl_UQ hU hnA, hPB, hUB, ?_, hEB, ?_, hb⟩, ?_, hc4, hc, ?_, ?_⟩
    · intro i j hi hj hi2 hj2
      show upd A.2.2.1 (q_lkE A k) k i ≠ B.2.2.1 j
      by_cases z : i = q_lkE A k
      · rw [z, pk_us]
        exact fun y => hB (q_lk_all (by omega) hPB hj hj2 y.symm)
      · rw [pk_un z]
        exact hD i j hi hj (by rw [← hi2]; exact (pk_un z).symm) hj2
    · show q_NK (upd A.2.1 (q_lkE A k) 2) A.1 + q_NK B.2.1 B.1 < A.1
      omega
    · show kc + 1 = q_NK (upd A.2.1 (q_lkE A k) 2) A.1 + q_NK B.2.1 B.1
      omega
    · show 4 * (kc + 1) + (B.1 - (c + 4)) ≤ 3 * A.1
      omega
    · intro y1 y2
      have y2 : 4 * (kc + 1) = 3 * A.1 := y2
      show 2 * A.1 ≤ L
      refine Nat.le_of_not_lt fun z => hf ⟨?_, by omega, z⟩
      rintro ⟨c', hc', hlt⟩
      cases hc'
      omega
/-- a remove from the new table, ahead of q_on -/
theorem q_iw_rmA {L kc : Nat} {A B : q_TB} {nx : Option Nat} {k : Int32} (h : q_IV L A B nx kc) (hA : q_hit A k) : q_IW L (q_fr A (q_lkE A k)).1 B nx (kc - 1) := by
  have hE := q_iv_EM h
  obtain ⟨hN, hP, hU⟩ := q_iv_PU h
  obtain ⟨hS, h⟩ := h
  have h8 := q_pw_8 hS.2.1
  have h0 : 0 < A.1 := by omega
  have he := q_lkE_lt (t := A) k h0
  obtain ⟨a1, a2, a3, a4, a5, a6⟩ := q_fr_ok hN hP hU hE he hA.1
  have hS' : q_SZ L (q_fr A (q_lkE A k)).1 B := by unfold q_SZ; rw [a1]; exact hS
  refine ⟨hS', ?_⟩
  cases nx with
  | none =>
    obtain ⟨-, -, -, hkc, h1⟩ := h
    exact ⟨a2, a3, a4, by rw [a1]; omega, by rw [a1]; omega, by rw [a1]; omega⟩
  | some c =>
    obtain ⟨hM, hkc, hc4, hc, h1⟩ := h
    obtain ⟨-, -, -, -, hPB, hUB, hD, hEB, hK, hb⟩ := hM
    refine ⟨⟨by rw [a1]; exact h0, a2, a3, a4, hPB, hUB, ?_, hEB, by rw [a1]; omega, hb⟩, by rw [a1]; omega, hc4, hc, by rw [a1]; omega, fun _ => by rw [a1]; omega⟩
    intro i j hi hj hi2 hj2
    rw [a1] at hi
    obtain ⟨b, b1, b2, b3⟩ := a6 i hi hi2
    rw [b3]
    exact hD b j b1 hj b2 hj2
/-- a remove from the old table, ahead of q_on -/
theorem q_iw_rmB {L kc c j : Nat} {A B : q_TB} (h : q_IV L A B (some c) kc) (hj : j < B.1) (h2 : B.2.1 j = 2) : q_IW L A (q_tk B j) (some c) (kc - 1) := by
  obtain ⟨hS, hM, hkc, hc4, hc, h1⟩ := h
  obtain ⟨h0, hN, hP, hU, hPB, hUB, hD, hEB, hK, hb⟩ := hM
  have n2 : q_NK B.2.1 B.1 = q_NK (upd B.2.1 j 1) B.1 + 1 := q_NK_dn (by decide) h2 B.1 hj
  have h4 := q_pw_4 hS.2.2.2.1
  have h4' : B.1 % 4 = 0 := h4
  refine ⟨hS, ⟨h0, hN, hP, hU, q_tk_PB hPB, q_tk_UQ hUB, fun a b ha hb' ha2 hb2 => hD a b ha hb' ha2 (q_up_2 (by decide) hb2).2, q_tk_EM hEB h2, ?_, fun i hi hiB => ?_⟩, ?_, hc4, hc, ?_, ?_⟩
  · show q_NK A.2.1 A.1 + q_NK (upd B.2.1 j 1) B.1 < A.1
    omega
  · show upd B.2.1 j 1 i ≠ 2
    by_cases z : i = j
    · subst z; rw [pk_us]; decide
    · rw [pk_un z]; exact hb i hi hiB
  · show kc - 1 = q_NK A.2.1 A.1 + q_NK (upd B.2.1 j 1) B.1
    omega
  · show 4 * (kc - 1) + (B.1 - (c + 4)) ≤ 3 * A.1
    omega
  · intro y1 y2
    have y1 : c + 4 = B.1 := y1
    omega
