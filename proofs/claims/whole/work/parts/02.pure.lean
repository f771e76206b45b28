/-! PURE: rings, tables of slots, looking for a key. A table is (n, marks, keys, values); marks 0 empty, 1 taken, 2 a key. -/
def q_ad (n a d : Nat) : Nat := if a + d < n then a + d else a + d - n
def q_rd (n a b : Nat) : Nat := if a ≤ b then b - a else b + n - a
theorem q_ad_c (n a d : Nat) : (a + d < n ∧ q_ad n a d = a + d) ∨ (n ≤ a + d ∧ q_ad n a d = a + d - n) := by
  unfold q_ad
  by_cases h : a + d < n
  · exact Or.inl ⟨h, if_pos h⟩
  · exact Or.inr ⟨Nat.le_of_not_lt h, if_neg h⟩
theorem q_rd_c (n a b : Nat) : (a ≤ b ∧ q_rd n a b = b - a) ∨ (b < a ∧ q_rd n a b = b + n - a) := by
  unfold q_rd
  by_cases h : a ≤ b
  · exact Or.inl ⟨h, if_pos h⟩
  · exact Or.inr ⟨Nat.lt_of_not_le h, if_neg h⟩
theorem q_ad_lt {n a d : Nat} (ha : a < n) (hd : d ≤ n) : q_ad n a d < n := by
  rcases q_ad_c n a d with ⟨h, e⟩ | ⟨h, e⟩ <;> omega
theorem q_rd_lt {n a b : Nat} (ha : a < n) (hb : b < n) : q_rd n a b < n := by
  rcases q_rd_c n a b with ⟨h, e⟩ | ⟨h, e⟩ <;> omega
theorem q_ad_rd {n a b : Nat} (ha : a < n) (hb : b < n) : q_ad n a (q_rd n a b) = b := by
  rcases q_rd_c n a b with ⟨h, e⟩ | ⟨h, e⟩ <;> rcases q_ad_c n a (q_rd n a b) with ⟨h2, e2⟩ | ⟨h2, e2⟩ <;> omega
theorem q_rd_ad {n a d : Nat} (ha : a < n) (hd : d < n) : q_rd n a (q_ad n a d) = d := by
  rcases q_ad_c n a d with ⟨h, e⟩ | ⟨h, e⟩ <;> rcases q_rd_c n a (q_ad n a d) with ⟨h2, e2⟩ | ⟨h2, e2⟩ <;> omega
theorem q_ad_ad {n a d e : Nat} (ha : a < n) (h : d + e ≤ n) : q_ad n (q_ad n a d) e = q_ad n a (d + e) := by
  rcases q_ad_c n a d with ⟨h1, e1⟩ | ⟨h1, e1⟩ <;> rcases q_ad_c n (q_ad n a d) e with ⟨h2, e2⟩ | ⟨h2, e2⟩ <;> rcases q_ad_c n a (d + e) with ⟨h3, e3⟩ | ⟨h3, e3⟩ <;> omega
theorem q_ad_0 {n a : Nat} (ha : a < n) : q_ad n a 0 = a := by
  rcases q_ad_c n a 0 with ⟨h, e⟩ | ⟨h, e⟩ <;> omega
theorem q_rd_0 {n a : Nat} : q_rd n a a = 0 := by
  rcases q_rd_c n a a with ⟨h, e⟩ | ⟨h, e⟩ <;> omega
/-- a slot at which looking for k stops -/
abbrev q_stp (M K : Nat → Int32) (k : Int32) (i : Nat) : Prop := M i = 0 ∨ (M i = 2 ∧ K i = k)
/-- how many slots looking goes on from i, at most f -/
def q_lkS (M K : Nat → Int32) (n : Nat) (k : Int32) : Nat → Nat → Nat
  | 0, _ => 0
  | f + 1, i => if q_stp M K k i then 0 else q_lkS M K n k f (q_ad n i 1) + 1
theorem q_lkS_z {M K : Nat → Int32} {n : Nat} {k : Int32} (f i : Nat) (h : q_stp M K k i) : q_lkS M K n k f i = 0 := by
  cases f with
  | zero => rfl
  | succ f => exact if_pos h
theorem q_lkS_s {M K : Nat → Int32} {n : Nat} {k : Int32} (f i : Nat) (h : ¬ q_stp M K k i) : q_lkS M K n k (f + 1) i = q_lkS M K n k f (q_ad n i 1) + 1 := if_neg h
theorem q_lkS_le {M K : Nat → Int32} {n : Nat} {k : Int32} : ∀ f i, q_lkS M K n k f i ≤ f := by
  intro f
  induction f with
  | zero => intro i; exact Nat.le_refl _
  | succ f ih =>
    intro i
    by_cases h : q_stp M K k i
    · rw [q_lkS_z _ _ h]; omega
    · rw [q_lkS_s _ _ h]
      have := ih (q_ad n i 1)
      omega
theorem q_lkS_pre {M K : Nat → Int32} {n : Nat} {k : Int32} : ∀ f i, i < n → f ≤ n → ∀ d, d < q_lkS M K n k f i → ¬ q_stp M K k (q_ad n i d) := by
  intro f
  induction f with
  | zero => intro i _ _ d hd; exact absurd hd (Nat.not_lt_zero _)
  | succ f ih =>
    intro i hi hf d hd
    by_cases h : q_stp M K k i
    · rw [q_lkS_z _ _ h] at hd; omega
    · rw [q_lkS_s _ _ h] at hd
      cases d with
      | zero => rw [q_ad_0 hi]; exact h
      | succ d =>
        have hle := q_lkS_le (M := M) (K := K) (n := n) (k := k) f (q_ad n i 1)
        have := ih (q_ad n i 1) (q_ad_lt hi (by omega)) (by omega) d (by omega)
        rw [q_ad_ad hi (by omega), Nat.add_comm 1 d] at this
        exact this
theorem q_lkS_stp {M K : Nat → Int32} {n : Nat} {k : Int32} : ∀ f i, i < n → f ≤ n → q_lkS M K n k f i < f → q_stp M K k (q_ad n i (q_lkS M K n k f i)) := by
  intro f
  induction f with
  | zero => intro i _ _ h; exact absurd h (Nat.not_lt_zero _)
  | succ f ih =>
    intro i hi hf hd
    by_cases h : q_stp M K k i
    · rw [q_lkS_z _ _ h, q_ad_0 hi]; exact h
    · rw [q_lkS_s _ _ h] at hd ⊢
      have hle := q_lkS_le (M := M) (K := K) (n := n) (k := k) f (q_ad n i 1)
      have := ih (q_ad n i 1) (q_ad_lt hi (by omega)) (by omega) (by omega)
      rw [q_ad_ad hi (by omega), Nat.add_comm 1 _] at this
      exact this
/-- where a slot within reach stops looking, it is stopped -/
theorem q_lkS_hit {M K : Nat → Int32} {n : Nat} {k : Int32} {f i d : Nat} (hi : i < n) (hf : f < n) (hd : d ≤ f) (h : q_stp M K k (q_ad n i d)) : q_lkS M K n k f i ≤ d ∧ q_stp M K k (q_ad n i (q_lkS M K n k f i)) := by
  have h1 : q_lkS M K n k f i ≤ d := Nat.le_of_not_lt fun z => q_lkS_pre f i hi (by omega) d z h
  refine ⟨h1, ?_⟩
  rcases Nat.lt_or_ge (q_lkS M K n k f i) f with z | z
  · exact q_lkS_stp f i hi (by omega) z
  · have : d = q_lkS M K n k f i := by omega
    rw [← this]; exact h
def q_hsh (k : Int32) : Int32 := (k * (-1640531535)) ^^^ ((k * (-1640531535)).toUInt32 >>> ((15 : Int32).toUInt32 &&& Int32.toUInt32 31)).toInt32
/-- the home of a key in a table of n slots -/
def q_hm (n : Nat) (k : Int32) : Nat := (q_hsh k).toBitVec.toNat % n
theorem q_hm_lt {n : Nat} (k : Int32) (h : 0 < n) : q_hm n k < n := Nat.mod_lt _ h
abbrev q_TB : Type := Nat × (Nat → Int32) × (Nat → Int32) × (Nat → Int32)
def q_lkD (t : q_TB) (k : Int32) : Nat := q_lkS t.2.1 t.2.2.1 t.1 k (t.1 - 1) (q_hm t.1 k)
def q_lkE (t : q_TB) (k : Int32) : Nat := q_ad t.1 (q_hm t.1 k) (q_lkD t k)
abbrev q_hit (t : q_TB) (k : Int32) : Prop := t.2.1 (q_lkE t k) = 2 ∧ t.2.2.1 (q_lkE t k) = k
/-- a key's slot is reached from its home without an empty one -/
def q_PB (t : q_TB) : Prop := ∀ j, j < t.1 → t.2.1 j = 2 → ∀ d, d < q_rd t.1 (q_hm t.1 (t.2.2.1 j)) j → t.2.1 (q_ad t.1 (q_hm t.1 (t.2.2.1 j)) d) ≠ 0
def q_UQ (t : q_TB) : Prop := ∀ i j, i < t.1 → j < t.1 → t.2.1 i = 2 → t.2.1 j = 2 → t.2.2.1 i = t.2.2.1 j → i = j
def q_EM (t : q_TB) : Prop := ∃ e, e < t.1 ∧ t.2.1 e = 0
def q_NT (t : q_TB) : Prop := ∀ i, i < t.1 → t.2.1 i = 0 ∨ t.2.1 i = 2
def q_DJ (A B : q_TB) : Prop := ∀ i j, i < A.1 → j < B.1 → A.2.1 i = 2 → B.2.1 j = 2 → A.2.2.1 i ≠ B.2.2.1 j
theorem q_lkD_lt {t : q_TB} (k : Int32) (h : 0 < t.1) : q_lkD t k < t.1 := by
  have := q_lkS_le (M := t.2.1) (K := t.2.2.1) (n := t.1) (k := k) (t.1 - 1) (q_hm t.1 k)
  unfold q_lkD
  omega
theorem q_lkE_lt {t : q_TB} (k : Int32) (h : 0 < t.1) : q_lkE t k < t.1 := q_ad_lt (q_hm_lt k h) (by have := q_lkD_lt k h; omega)
theorem q_lk_stp {t : q_TB} (k : Int32) (h : 0 < t.1) (he : q_EM t) : q_stp t.2.1 t.2.2.1 k (q_lkE t k) := by
  obtain ⟨e, h1, h2⟩ := he
  have hh := q_hm_lt k h
  have := q_rd_lt hh h1
  exact (q_lkS_hit (d := q_rd t.1 (q_hm t.1 k) e) hh (by omega) (by omega) (by rw [q_ad_rd hh h1]; exact Or.inl h2)).2
theorem q_lk_miss {t : q_TB} {k : Int32} (h : 0 < t.1) (he : q_EM t) (hm : ¬ q_hit t k) : t.2.1 (q_lkE t k) = 0 := (q_lk_stp k h he).elim id fun z => absurd z hm
theorem q_lk_all {t : q_TB} {k : Int32} (h : 0 < t.1) (hP : q_PB t) {j : Nat} (hj : j < t.1) (h2 : t.2.1 j = 2) (hk : t.2.2.1 j = k) : q_hit t k := by
  have hh := q_hm_lt k h
  have hr := q_rd_lt hh hj
  have hz := q_lkS_hit (M := t.2.1) (K := t.2.2.1) (k := k) (f := t.1 - 1) (d := q_rd t.1 (q_hm t.1 k) j) hh (by omega) (by omega) (by rw [q_ad_rd hh hj]; exact Or.inr ⟨h2, hk⟩)
  have hz1 : q_lkD t k ≤ q_rd t.1 (q_hm t.1 k) j := hz.1
  rcases hz.2 with z | z
  · rcases Nat.lt_or_ge (q_lkD t k) (q_rd t.1 (q_hm t.1 k) j) with y | y
    · exact absurd z (by have := hP j hj h2 (q_lkD t k) (by rw [hk]; exact y); rw [hk] at this; exact this)
    · have e : q_lkE t k = j := by
        unfold q_lkE
        rw [show q_lkD t k = q_rd t.1 (q_hm t.1 k) j by omega]
        exact q_ad_rd hh hj
      exact ⟨by rw [e]; exact h2, by rw [e]; exact hk⟩
  · exact z
/-- a key laid into a slot -/
abbrev q_fl (t : q_TB) (e : Nat) (k v : Int32) : q_TB := (t.1, upd t.2.1 e 2, upd t.2.2.1 e k, upd t.2.2.2 e v)
theorem q_up_ne {f : Nat → Int32} {a : Nat} {x : Int32} {j : Nat} (hx : x ≠ 0) (h : f j ≠ 0) : upd f a x j ≠ 0 := by
  by_cases e : j = a
  · subst e; rw [pk_us]; exact hx
  · rw [pk_un e]; exact h
theorem q_up_2 {f : Nat → Int32} {a : Nat} {x : Int32} {j : Nat} (hx : x ≠ 2) (h : upd f a x j = 2) : j ≠ a ∧ f j = 2 := by
  by_cases e : j = a
  · subst e; rw [pk_us] at h; exact absurd h hx
  · rw [pk_un e] at h; exact ⟨e, h⟩
def q_NK (M : Nat → Int32) : Nat → Nat
  | 0 => 0
  | n + 1 => q_NK M n + if M n = 2 then 1 else 0
theorem q_NK_le (M : Nat → Int32) : ∀ n, q_NK M n ≤ n := by
  intro n
  induction n with
  | zero => exact Nat.le_refl _
  | succ n ih => unfold q_NK; split <;> omega
theorem q_NK_out {M : Nat → Int32} {a : Nat} {x : Int32} : ∀ n, n ≤ a → q_NK (upd M a x) n = q_NK M n := by
  intro n
  induction n with
  | zero => intro _; rfl
  | succ n ih => intro h; unfold q_NK; rw [ih (by omega), pk_un (by omega)]
theorem q_NK_up {M : Nat → Int32} {a : Nat} (h2 : M a ≠ 2) : ∀ n, a < n → q_NK (upd M a 2) n = q_NK M n + 1 := by
  intro n
  induction n with
  | zero => intro h; omega
  | succ n ih =>
    intro h
    unfold q_NK
    rcases Nat.lt_or_ge a n with z | z
    · rw [ih z, pk_un (by omega)]; omega
    · have e : a = n := by omega
      subst e
      rw [q_NK_out _ (Nat.le_refl _), pk_us, if_pos rfl, if_neg h2]
theorem q_NK_dn {M : Nat → Int32} {a : Nat} {x : Int32} (hx : x ≠ 2) (h2 : M a = 2) : ∀ n, a < n → q_NK M n = q_NK (upd M a x) n + 1 := by
  intro n
  induction n with
  | zero => intro h; omega
  | succ n ih =>
    intro h
    unfold q_NK
    rcases Nat.lt_or_ge a n with z | z
    · rw [ih z, pk_un (by omega)]; omega
    · have e : a = n := by omega
      subst e
      rw [q_NK_out _ (Nat.le_refl _), pk_us, if_pos h2, if_neg hx]
theorem q_NK_0 {M : Nat → Int32} : ∀ n, (∀ i, i < n → M i ≠ 2) → q_NK M n = 0 := by
  intro n
  induction n with
  | zero => intro _; rfl
  | succ n ih => intro h; unfold q_NK; rw [ih (fun i hi => h i (by omega)), if_neg (h n (by omega))]
theorem q_NK_full {M : Nat → Int32} : ∀ n, (∀ i, i < n → M i = 2) → q_NK M n = n := by
  intro n
  induction n with
  | zero => intro _; rfl
  | succ n ih => intro h; unfold q_NK; rw [ih (fun i hi => h i (by omega)), if_pos (h n (by omega))]
theorem q_NK_pos {M : Nat → Int32} {j : Nat} (h2 : M j = 2) : ∀ n, j < n → 0 < q_NK M n := by
  intro n h
  have := q_NK_dn (x := 0) (by decide) h2 n h
  omega
theorem q_EM_of {t : q_TB} (hN : q_NT t) (h : q_NK t.2.1 t.1 < t.1) : q_EM t := by
  by_cases z : ∃ e, e < t.1 ∧ t.2.1 e = 0
  · exact z
  · have := q_NK_full (M := t.2.1) t.1 (fun i hi => (hN i hi).elim (fun y => absurd ⟨i, hi, y⟩ z) id)
    omega
theorem q_fl_NT {t : q_TB} {e : Nat} {k v : Int32} (h : q_NT t) : q_NT (q_fl t e k v) := by
  intro i hi
  show upd t.2.1 e 2 i = 0 ∨ upd t.2.1 e 2 i = 2
  by_cases z : i = e
  · subst z; exact Or.inr pk_us
  · rw [pk_un z]; exact h i hi
theorem q_fl_PB {t : q_TB} {k v : Int32} (h0 : 0 < t.1) (h : q_PB t) : q_PB (q_fl t (q_lkE t k) k v) := by
  intro j hj h2 d hd
  refine q_up_ne (by decide) ?_
  by_cases z : j = q_lkE t k
  · subst z
    have e1 : (q_fl t (q_lkE t k) k v).2.2.1 (q_lkE t k) = k := pk_us
    rw [e1] at hd ⊢
    have hh := q_hm_lt k h0
    have e2 : q_rd t.1 (q_hm t.1 k) (q_lkE t k) = q_lkD t k := q_rd_ad hh (q_lkD_lt k h0)
    have hd : d < q_lkD t k := by rw [← e2]; exact hd
    intro y
    exact q_lkS_pre (M := t.2.1) (K := t.2.2.1) (k := k) (t.1 - 1) (q_hm t.1 k) hh (by omega) d hd (Or.inl y)
  · have e1 : (q_fl t (q_lkE t k) k v).2.2.1 j = t.2.2.1 j := pk_un z
    have h2' : t.2.1 j = 2 := by rw [← h2]; exact (pk_un z).symm
    rw [e1] at hd ⊢
    exact h j hj h2' d hd
theorem q_fl_UQ {t : q_TB} {e : Nat} {k v : Int32} (h : q_UQ t) (hn : ∀ j, j < t.1 → t.2.1 j = 2 → t.2.2.1 j ≠ k) : q_UQ (q_fl t e k v) := by
  intro i j hi hj hi2 hj2 hk
  by_cases zi : i = e <;> by_cases zj : j = e
  · rw [zi, zj]
  · subst zi
    have a1 : (q_fl t i k v).2.2.1 i = k := pk_us
    have a2 : (q_fl t i k v).2.2.1 j = t.2.2.1 j := pk_un zj
    have a3 : t.2.1 j = 2 := by rw [← hj2]; exact (pk_un zj).symm
    exact absurd (by rw [← a2, ← hk, a1]) (hn j hj a3)
  · subst zj
    have a1 : (q_fl t j k v).2.2.1 j = k := pk_us
    have a2 : (q_fl t j k v).2.2.1 i = t.2.2.1 i := pk_un zi
    have a3 : t.2.1 i = 2 := by rw [← hi2]; exact (pk_un zi).symm
    exact absurd (by rw [← a2, hk, a1]) (hn i hi a3)
  · have a1 : (q_fl t e k v).2.2.1 i = t.2.2.1 i := pk_un zi
    have a2 : (q_fl t e k v).2.2.1 j = t.2.2.1 j := pk_un zj
    have a3 : t.2.1 i = 2 := by rw [← hi2]; exact (pk_un zi).symm
    have a4 : t.2.1 j = 2 := by rw [← hj2]; exact (pk_un zj).symm
    exact h i j hi hj a3 a4 (by rw [← a1, ← a2]; exact hk)
/-- a key's slot taken -/
abbrev q_tk (t : q_TB) (c : Nat) : q_TB := (t.1, upd t.2.1 c 1, t.2.2.1, t.2.2.2)
theorem q_tk_PB {t : q_TB} {c : Nat} (h : q_PB t) : q_PB (q_tk t c) := fun j hj h2 d hd => q_up_ne (by decide) (h j hj (q_up_2 (by decide) h2).2 d hd)
theorem q_tk_UQ {t : q_TB} {c : Nat} (h : q_UQ t) : q_UQ (q_tk t c) := fun i j hi hj hi2 hj2 hk => h i j hi hj (q_up_2 (by decide) hi2).2 (q_up_2 (by decide) hj2).2 hk
theorem q_tk_EM {t : q_TB} {c : Nat} (h : q_EM t) (h2 : t.2.1 c = 2) : q_EM (q_tk t c) := by
  obtain ⟨e, h1, h3⟩ := h
  refine ⟨e, h1, ?_⟩
  show upd t.2.1 c 1 e = 0
  rw [pk_un (fun z => by rw [z, h2] at h3; exact absurd h3 (by decide))]
  exact h3
