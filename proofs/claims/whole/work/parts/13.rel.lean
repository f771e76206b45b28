/-! REL: how the reference's rows hold a table -/
def q_sw (m : Int32) : Int32 := if m = 0 then 0 else if m = 2 then 1 else 2
theorem q_sw_0 {m : Int32} : q_sw m = 0 ↔ m = 0 := by
  unfold q_sw
  by_cases h : m = 0
  · rw [if_pos h]; exact ⟨fun _ => h, fun _ => rfl⟩
  · rw [if_neg h]
    by_cases h2 : m = 2
    · rw [if_pos h2]; exact ⟨fun z => absurd z (by decide), fun z => absurd z h⟩
    · rw [if_neg h2]; exact ⟨fun z => absurd z (by decide), fun z => absurd z h⟩
theorem q_sw_1 {m : Int32} : q_sw m = 1 ↔ m = 2 := by
  unfold q_sw
  by_cases h : m = 0
  · rw [if_pos h]; exact ⟨fun z => absurd z (by decide), fun z => by rw [z] at h; exact absurd h (by decide)⟩
  · rw [if_neg h]
    by_cases h2 : m = 2
    · rw [if_pos h2]; exact ⟨fun _ => h2, fun _ => rfl⟩
    · rw [if_neg h2]; exact ⟨fun z => absurd z (by decide), fun z => absurd z h2⟩
/-- table t lies at place ci of the reference's rows -/
def q_RT (S K V : Nat → Int32) (ci : Nat) (t : q_TB) : Prop := ∀ i, i < t.1 → S (1024 * ci + i) = q_sw (t.2.1 i) ∧ (t.2.1 i = 2 → K (1024 * ci + i) = t.2.2.1 i ∧ V (1024 * ci + i) = t.2.2.2 i)
theorem q_RT_s {S K V : Nat → Int32} {ci i : Nat} {t : q_TB} (h : q_RT S K V ci t) (hi : i < t.1) : S (1024 * ci + i) = q_sw (t.2.1 i) := (h i hi).1
theorem q_RT_k {S K V : Nat → Int32} {ci i : Nat} {t : q_TB} (h : q_RT S K V ci t) (hi : i < t.1) (h2 : t.2.1 i = 2) : K (1024 * ci + i) = t.2.2.1 i := ((h i hi).2 h2).1
theorem q_RT_v {S K V : Nat → Int32} {ci i : Nat} {t : q_TB} (h : q_RT S K V ci t) (hi : i < t.1) (h2 : t.2.1 i = 2) : V (1024 * ci + i) = t.2.2.2 i := ((h i hi).2 h2).2
/-- what lies elsewhere doesn't matter -/
theorem q_RT_eq {S K V S' K' V' : Nat → Int32} {ci : Nat} {t : q_TB} (h : q_RT S K V ci t) (hs : ∀ i, i < t.1 → S' (1024 * ci + i) = S (1024 * ci + i) ∧ K' (1024 * ci + i) = K (1024 * ci + i) ∧ V' (1024 * ci + i) = V (1024 * ci + i)) : q_RT S' K' V' ci t := by
  intro i hi
  obtain ⟨a, b, c⟩ := hs i hi
  obtain ⟨d, e⟩ := h i hi
  exact ⟨by rw [a, d], fun z => ⟨by rw [b, (e z).1], by rw [c, (e z).2]⟩⟩
theorem q_RT_o {S K V : Nat → Int32} {ci p : Nat} {t : q_TB} {x y z : Int32} (h : q_RT S K V ci t) (hp : ∀ i, i < t.1 → 1024 * ci + i ≠ p) : q_RT (upd S p x) (upd K p y) (upd V p z) ci t := q_RT_eq h fun i hi => ⟨pk_un (hp i hi), pk_un (hp i hi), pk_un (hp i hi)⟩
theorem q_RT_oS {S K V : Nat → Int32} {ci p : Nat} {t : q_TB} {x : Int32} (h : q_RT S K V ci t) (hp : ∀ i, i < t.1 → 1024 * ci + i ≠ p) : q_RT (upd S p x) K V ci t := q_RT_eq h fun i hi => ⟨pk_un (hp i hi), rfl, rfl⟩
theorem q_RT_oV {S K V : Nat → Int32} {ci p : Nat} {t : q_TB} {x : Int32} (h : q_RT S K V ci t) (hp : ∀ i, i < t.1 → 1024 * ci + i ≠ p) : q_RT S K (upd V p x) ci t := q_RT_eq h fun i hi => ⟨rfl, rfl, pk_un (hp i hi)⟩
theorem q_RT_fl {S K V : Nat → Int32} {ci e : Nat} {t : q_TB} {k v : Int32} (h : q_RT S K V ci t) : q_RT (upd S (1024 * ci + e) 1) (upd K (1024 * ci + e) k) (upd V (1024 * ci + e) v) ci (q_fl t e k v) := by
  intro i hi
  show upd S (1024 * ci + e) 1 (1024 * ci + i) = q_sw (upd t.2.1 e 2 i) ∧ (upd t.2.1 e 2 i = 2 → upd K (1024 * ci + e) k (1024 * ci + i) = upd t.2.2.1 e k i ∧ upd V (1024 * ci + e) v (1024 * ci + i) = upd t.2.2.2 e v i)
  by_cases z : i = e
  · subst z
    rw [pk_us, pk_us, pk_us, pk_us, pk_us, pk_us]
    exact ⟨rfl, fun _ => ⟨rfl, rfl⟩⟩
  · have n : 1024 * ci + i ≠ 1024 * ci + e := by omega
    rw [pk_un n, pk_un n, pk_un n, pk_un z, pk_un z, pk_un z]
    exact h i hi
theorem q_RT_tk {S K V : Nat → Int32} {ci e : Nat} {t : q_TB} (h : q_RT S K V ci t) : q_RT (upd S (1024 * ci + e) 2) K V ci (q_tk t e) := by
  intro i hi
  show upd S (1024 * ci + e) 2 (1024 * ci + i) = q_sw (upd t.2.1 e 1 i) ∧ (upd t.2.1 e 1 i = 2 → K (1024 * ci + i) = t.2.2.1 i ∧ V (1024 * ci + i) = t.2.2.2 i)
  by_cases z : i = e
  · subst z
    rw [pk_us, pk_us]
    exact ⟨rfl, fun z => absurd z (by decide)⟩
  · have n : 1024 * ci + i ≠ 1024 * ci + e := by omega
    rw [pk_un n, pk_un z]
    exact h i hi
theorem q_RT_v1 {S K V : Nat → Int32} {ci e : Nat} {t : q_TB} {v : Int32} (h : q_RT S K V ci t) : q_RT S K (upd V (1024 * ci + e) v) ci (t.1, t.2.1, t.2.2.1, upd t.2.2.2 e v) := by
  intro i hi
  show S (1024 * ci + i) = q_sw (t.2.1 i) ∧ (t.2.1 i = 2 → K (1024 * ci + i) = t.2.2.1 i ∧ upd V (1024 * ci + e) v (1024 * ci + i) = upd t.2.2.2 e v i)
  by_cases z : i = e
  · subst z
    rw [pk_us, pk_us]
    exact ⟨(h i hi).1, fun y => ⟨((h i hi).2 y).1, rfl⟩⟩
  · have n : 1024 * ci + i ≠ 1024 * ci + e := by omega
    rw [pk_un n, pk_un z]
    exact h i hi
/-- the first q places from b on emptied -/
def q_clr (S : Nat → Int32) (b q : Nat) : Nat → Int32 := fun p => if b ≤ p ∧ p < b + q then 0 else S p
theorem q_clr_0 (S : Nat → Int32) (b : Nat) : q_clr S b 0 = S := funext fun p => if_neg (by omega)
theorem q_clr_s (S : Nat → Int32) (b q : Nat) : upd (q_clr S b q) (b + q) 0 = q_clr S b (q + 1) := by
  funext p
  show (if p = b + q then (0 : Int32) else if b ≤ p ∧ p < b + q then 0 else S p) = if b ≤ p ∧ p < b + (q + 1) then 0 else S p
  by_cases h : p = b + q
  · rw [if_pos h, if_pos (by omega)]
  · rw [if_neg h]
    by_cases h2 : b ≤ p ∧ p < b + q
    · rw [if_pos h2, if_pos (by omega)]
    · rw [if_neg h2, if_neg (by omega)]
theorem q_clr_o {S K V : Nat → Int32} {ci b q : Nat} {t : q_TB} (h : q_RT S K V ci t) (hp : ∀ i, i < t.1 → ¬ (b ≤ 1024 * ci + i ∧ 1024 * ci + i < b + q)) : q_RT (q_clr S b q) K V ci t := q_RT_eq h fun i hi => ⟨if_neg (hp i hi), rfl, rfl⟩
theorem q_clr_new {S K V : Nat → Int32} {ci q : Nat} {M Kt Vt : Nat → Int32} : q_RT (q_clr S (1024 * ci) q) K V ci (q, (fun i => if i < q then 0 else M i), Kt, Vt) := by
  intro i hi
  have hi : i < q := hi
  show q_clr S (1024 * ci) q (1024 * ci + i) = q_sw (if i < q then 0 else M i) ∧ ((if i < q then (0 : Int32) else M i) = 2 → _)
  rw [if_pos hi]
  exact ⟨if_pos ⟨by omega, by omega⟩, fun z => absurd z (by decide)⟩
def q_lkR (t : q_TB) (k : Int32) : Int32 := if q_hit t k then nI (q_lkE t k) else -1 - nI (q_lkE t k)
theorem q_lkR_t {t : q_TB} {k : Int32} (h : q_hit t k) : q_lkR t k = nI (q_lkE t k) := if_pos h
theorem q_lkR_f {t : q_TB} {k : Int32} (h : ¬ q_hit t k) : q_lkR t k = -1 - nI (q_lkE t k) := if_neg h
theorem q_rd_next {n i b f : Nat} (hi : i < n) (hb : b < n) (h : q_rd n i b = f + 1) : q_rd n (q_ad n i 1) b = f := by
  have := q_rd_split (d := 1) hi hb (by omega)
  omega
theorem q_rd_z {n i b : Nat} (hi : i < n) (hb : b < n) (h : q_rd n i b = 0) : i = b := by
  have := q_ad_rd hi hb
  rw [h, q_ad_0 hi] at this
  exact this
theorem q_nge {x : Int32} (h : x < 0) : ¬ 0 ≤ x := by
  rw [Int32.lt_iff_toInt_lt] at h
  rw [Int32.le_iff_toInt_le]
  omega
theorem q_ge0 {x : Int32} (h : ¬ x < 0) : 0 ≤ x := by
  rw [Int32.lt_iff_toInt_lt] at h
  rw [Int32.le_iff_toInt_le]
  omega
/-- the reference's cells for a state of the map -/
def q_RL (s : q_ST) (ci : Nat) (S K V Z : Nat → Int32) (mv cr : Int32) : Prop := ci < 2 ∧ Z ci = nI s.1.1 ∧ q_RT S K V ci s.1 ∧ mv = q_b (s.2.2.1.isSome = true) ∧ ∀ c, s.2.2.1 = some c → cr = nI c ∧ Z (1 - ci) = nI s.2.1.1 ∧ q_RT S K V (1 - ci) s.2.1
/-- the reference while a gap is closed: all but the gap as the table has it, the gap still held, nothing else changed -/
def q_RF (S K V S0 K0 V0 : Nat → Int32) (ci fr : Nat) (t : q_TB) : Prop := S (1024 * ci + fr) = 1 ∧ (∀ i, i < t.1 → i ≠ fr → S (1024 * ci + i) = q_sw (t.2.1 i) ∧ (t.2.1 i = 2 → K (1024 * ci + i) = t.2.2.1 i ∧ V (1024 * ci + i) = t.2.2.2 i)) ∧ ∀ p, ¬ (1024 * ci ≤ p ∧ p < 1024 * ci + t.1) → S p = S0 p ∧ K p = K0 p ∧ V p = V0 p
theorem q_RF_1 {S K V S0 K0 V0 : Nat → Int32} {ci fr i : Nat} {t : q_TB} (h : q_RF S K V S0 K0 V0 ci fr t) (hi : i < t.1) (hf : fr < t.1) (hn : i ≠ fr) (h2 : t.2.1 i = 2) : q_RF (upd S (1024 * ci + fr) 1) (upd K (1024 * ci + fr) (t.2.2.1 i)) (upd V (1024 * ci + fr) (t.2.2.2 i)) S0 K0 V0 ci i (q_sh t i fr) := by
  obtain ⟨a, b, c⟩ := h
  refine ⟨?_, ?_, ?_⟩
  · rw [pk_un (by omega), (b i hi hn).1, h2]; rfl
  · intro j hj hji
    have hj : j < t.1 := hj
    show upd S (1024 * ci + fr) 1 (1024 * ci + j) = q_sw (upd (upd t.2.1 fr 2) i 0 j) ∧ (upd (upd t.2.1 fr 2) i 0 j = 2 → upd K (1024 * ci + fr) (t.2.2.1 i) (1024 * ci + j) = upd t.2.2.1 fr (t.2.2.1 i) j ∧ upd V (1024 * ci + fr) (t.2.2.2 i) (1024 * ci + j) = upd t.2.2.2 fr (t.2.2.2 i) j)
    rw [pk_un hji]
    by_cases z : j = fr
    · subst z
      rw [pk_us, pk_us, pk_us, pk_us, pk_us, pk_us]
      exact ⟨rfl, fun _ => ⟨rfl, rfl⟩⟩
    · have n : 1024 * ci + j ≠ 1024 * ci + fr := by omega
      rw [pk_un n, pk_un n, pk_un n, pk_un z, pk_un z, pk_un z]
      exact b j hj z
  · intro p hp
    have hp : ¬ (1024 * ci ≤ p ∧ p < 1024 * ci + t.1) := hp
    have n : p ≠ 1024 * ci + fr := fun z => hp (by omega)
    rw [pk_un n, pk_un n, pk_un n]
    exact c p hp
/-- the gap emptied at the end -/
theorem q_RF_end {S K V S0 K0 V0 : Nat → Int32} {ci fr : Nat} {t : q_TB} (h : q_RF S K V S0 K0 V0 ci fr t) (hf : fr < t.1) (h0 : t.2.1 fr = 0) : q_RT (upd S (1024 * ci + fr) 0) K V ci t ∧ ∀ p, ¬ (1024 * ci ≤ p ∧ p < 1024 * ci + t.1) → upd S (1024 * ci + fr) 0 p = S0 p ∧ K p = K0 p ∧ V p = V0 p := by
  obtain ⟨a, b, c⟩ := h
  refine ⟨fun i hi => ?_, fun p hp => ?_⟩
  · by_cases z : i = fr
    · subst z
      rw [pk_us, h0]
      exact ⟨rfl, fun z => absurd z (by decide)⟩
    · rw [pk_un (by omega)]; exact b i hi z
  · rw [pk_un (fun z => hp (by omega))]; exact c p hp
theorem q_RF_0 {S K V : Nat → Int32} {ci e : Nat} {t : q_TB} (h : q_RT S K V ci t) (he : e < t.1) (h2 : t.2.1 e = 2) : q_RF S K V S K V ci e (t.1, upd t.2.1 e 0, t.2.2.1, t.2.2.2) := by
  refine ⟨by rw [q_RT_s h he, h2]; rfl, fun i hi hne => ?_, fun p _ => ⟨rfl, rfl, rfl⟩⟩
  show S (1024 * ci + i) = q_sw (upd t.2.1 e 0 i) ∧ (upd t.2.1 e 0 i = 2 → _)
  rw [pk_un hne]
  exact h i hi
abbrev q_A3 : Type := (Nat → Int32) × (Nat → Int32) × (Nat → Int32)
theorem q_RL_start {S K V Z : Nat → Int32} {ci q kc w : Nat} {A B : q_TB} (hci : ci < 2) (hz : Z ci = nI A.1) (hA : q_RT S K V ci A) (hA9 : A.1 ≤ 1024) (hq : q ≤ 1024) : q_RL (q_start A B q kc w) (1 - ci) (q_clr S (1024 * (1 - ci)) q) K V (upd Z (1 - ci) (nI q)) 1 (nI 0) := by
  have e : 1 - (1 - ci) = ci := by omega
  refine ⟨by omega, pk_us, q_clr_new, (q_b_t rfl).symm, fun c hc => ?_⟩
  cases hc
  refine ⟨rfl, ?_, ?_⟩
  · rw [e, pk_un (by omega)]; exact hz
  · rw [e]
    refine q_clr_o hA fun i hi => ?_
    have hi : i < A.1 := hi
    omega
theorem q_RL_none {S K V Z : Nat → Int32} {ci kc w : Nat} {A B : q_TB} {cr : Int32} (hci : ci < 2) (hz : Z ci = nI A.1) (hA : q_RT S K V ci A) : q_RL (A, B, none, kc, w) ci S K V Z 0 cr := ⟨hci, hz, hA, (q_b_f (fun y => by cases y)).symm, fun c hc => by cases hc⟩
theorem q_RL_some {S K V Z : Nat → Int32} {ci cu kc w : Nat} {A B : q_TB} (hci : ci < 2) (hz : Z ci = nI A.1) (hA : q_RT S K V ci A) (hzB : Z (1 - ci) = nI B.1) (hB : q_RT S K V (1 - ci) B) : q_RL (A, B, some cu, kc, w) ci S K V Z 1 (nI cu) := ⟨hci, hz, hA, (q_b_t rfl).symm, fun c hc => by cases hc; exact ⟨rfl, hzB, hB⟩⟩
abbrev q_U : Type := Nat × q_A3 × (Nat → Int32) × Int32 × Int32 × Nat
abbrev q_rl (s : q_ST) (u : q_U) : Prop := q_RL s u.1 u.2.1.1 u.2.1.2.1 u.2.1.2.2 u.2.2.1 u.2.2.2.1 u.2.2.2.2.1
/-- the reference's cells between calls -/
abbrev q_WM (cI : ClassId) (g0 gs gk gv gz L : Nat) (u : q_U) (s : q_ST) : va_W := [(g0, .inr (2, [.int 0, .int (nI L), .ref gs, .ref gk, .ref gv, .ref gz, .int (nI u.1), .int u.2.2.2.1, .int u.2.2.2.2.1, .int (nI s.2.2.2.1), .int (nI u.2.2.2.2.2), .int (nI s.2.2.2.2)])), (gs, .inl (cI, 2048, .inl u.2.1.1)), (gk, .inl (cI, 2048, .inl u.2.1.2.1)), (gv, .inl (cI, 2048, .inl u.2.1.2.2)), (gz, .inl (cI, 2, .inl u.2.2.1))]
def q_fnd (A B : q_TB) (nx : Option Nat) (k : Int32) (ci : Nat) : Int32 := if q_hit A k then nI (1024 * ci + q_lkE A k) else if q_hitB B nx k then nI (1024 * (1 - ci) + q_lkE B k) else -1
theorem q_fnd_A {A B : q_TB} {nx : Option Nat} {k : Int32} {ci : Nat} (h : q_hit A k) : q_fnd A B nx k ci = nI (1024 * ci + q_lkE A k) := if_pos h
theorem q_fnd_B {A B : q_TB} {nx : Option Nat} {k : Int32} {ci : Nat} (h : ¬ q_hit A k) (hb : q_hitB B nx k) : q_fnd A B nx k ci = nI (1024 * (1 - ci) + q_lkE B k) := by
  unfold q_fnd; rw [if_neg h, if_pos hb]
theorem q_fnd_N {A B : q_TB} {nx : Option Nat} {k : Int32} {ci : Nat} (h : ¬ q_hit A k) (hb : ¬ q_hitB B nx k) : q_fnd A B nx k ci = -1 := by
  unfold q_fnd; rw [if_neg h, if_neg hb]
theorem q_fnd_c (A B : q_TB) (nx : Option Nat) (k : Int32) (ci : Nat) : (q_hit A k ∧ q_fnd A B nx k ci = nI (1024 * ci + q_lkE A k)) ∨ (¬ q_hit A k ∧ q_hitB B nx k ∧ q_fnd A B nx k ci = nI (1024 * (1 - ci) + q_lkE B k)) ∨ (¬ q_hit A k ∧ ¬ q_hitB B nx k ∧ q_fnd A B nx k ci = -1) := by
  by_cases h : q_hit A k
  · exact Or.inl ⟨h, q_fnd_A h⟩
  · by_cases hb : q_hitB B nx k
    · exact Or.inr (Or.inl ⟨h, hb, q_fnd_B h hb⟩)
    · exact Or.inr (Or.inr ⟨h, hb, q_fnd_N h hb⟩)
theorem q_iv_EB {L kc : Nat} {A B : q_TB} {nx : Option Nat} (h : q_IV L A B nx kc) : ∀ c, nx = some c → q_EM B ∧ c ≤ B.1 := by
  intro c hc
  subst hc
  obtain ⟨hS, hM, h1, h2, h3, h4⟩ := h
  exact ⟨hM.2.2.2.2.2.2.2.1, by omega⟩
theorem q_start_kc (A B : q_TB) (q kc wk : Nat) : (q_start A B q kc wk).2.2.2.1 = kc := rfl
theorem q_set0_kc (A B : q_TB) (kc wk : Nat) : (q_set0 A B kc wk).2.2.2.1 = kc := by
  unfold q_set0
  split
  · rfl
  · split <;> rfl
theorem q_on_kc (A B : q_TB) (nx : Option Nat) (kc wk : Nat) : (q_on A B nx kc wk).2.2.2.1 = kc := by
  cases nx with
  | none => exact q_set0_kc A B kc wk
  | some c =>
    rw [q_on_s]
    split
    · rfl
    · exact q_set0_kc _ _ _ _
theorem q_cur_n {nx : Option Nat} (h : ¬ nx.isSome = true) : -1 = q_nx nx := by
  cases nx with
  | none => rfl
  | some c => exact absurd rfl h
theorem q_cur_s {nx : Option Nat} {x : Int32} (h : nx.isSome = true) (hc : ∀ c, nx = some c → x = nI c) : x = q_nx nx := by
  cases nx with
  | none => cases h
  | some c => exact hc c rfl
