/-! BITS: homes, rings and remainders as the machine counts them -/
theorem q_pw_mask {n : Nat} (h : q_pw n) (x : Int32) : x &&& (nI n - 1) = nI (x.toBitVec.toNat % n) := by
  obtain ⟨j, h1, h2, rfl⟩ := h
  have hp : 0 < 2 ^ j := Nat.two_pow_pos j
  have hb : 2 ^ j ≤ 2 ^ 10 := Nat.pow_le_pow_right (by decide) h2
  refine pk_and x j ?_
  rw [show nI (2 ^ j) - 1 = nI (2 ^ j - 1) from pk_sub hp]
  exact pk_tn (by omega)
theorem q_home_eq {n : Nat} (h : q_pw n) (k : Int32) : q_hsh k &&& (nI n - 1) = nI (q_hm n k) := q_pw_mask h _
theorem q_mod_ad {n a : Nat} (ha : a < n) : (a + 1) % n = q_ad n a 1 := by
  rcases q_ad_c n a 1 with ⟨h, e⟩ | ⟨h, e⟩
  · rw [e]; exact Nat.mod_eq_of_lt h
  · rw [e, show a + 1 = n by omega, Nat.mod_self]; omega
theorem q_next_eq {n a : Nat} (h : q_pw n) (ha : a < n) : (nI a + 1) &&& (nI n - 1) = nI (q_ad n a 1) := by
  have h8 := q_pw_8 h
  rw [nI_1, q_pw_mask h, pk_tn (by omega), q_mod_ad ha]
theorem q_ring_eq {n a b : Nat} (h : q_pw n) (ha : a < n) (hb : b < n) : (nI b - nI a) &&& (nI n - 1) = nI (q_rd n a b) := by
  rw [q_pw_mask h]
  have e : (nI b - nI a).toBitVec.toNat = (2 ^ 32 - a + b) % 2 ^ 32 := by
    rw [Int32.toBitVec_sub, BitVec.toNat_sub]
    have h8 := q_pw_8 h
    rw [pk_tn (n := a) (by omega), pk_tn (n := b) (by omega)]
  rw [e]
  congr 1
  rcases q_pw_c h with rfl | rfl | rfl | rfl | rfl | rfl | rfl | rfl <;> rcases q_rd_c _ a b with ⟨h1, e1⟩ | ⟨h1, e1⟩ <;> rw [e1] <;> omega
theorem q_behind_eq {n a : Nat} (h : q_pw n) (ha : a < n) : (nI a + 1) - (nI a + 1) / nI n * nI n = nI (q_ad n a 1) := by
  have h8 := q_pw_8 h
  rw [nI_1, pk_rem (by omega) (by omega) (by omega), q_mod_ad ha]
theorem q_rem_toInt (x y : Int32) : (x - x / y * y).toInt = x.toInt.tmod y.toInt := by
  have a := (x % y).toInt_lt
  have b := (x % y).le_toInt
  rw [Int32.toInt_mod] at a b
  rw [Int32.toInt_sub, Int32.toInt_mul, Int32.toInt_div, Int.bmod_mul_bmod, Int.sub_bmod_bmod, Int.mul_comm, ← Int.tmod_def]
  exact Int.bmod_eq_of_le (by omega) (by omega)
theorem q_toInt_c (x : Int32) : (x.toBitVec.toNat < 2 ^ 31 ∧ x.toInt = (x.toBitVec.toNat : Int)) ∨ (2 ^ 31 ≤ x.toBitVec.toNat ∧ x.toBitVec.toNat < 2 ^ 32 ∧ x.toInt = (x.toBitVec.toNat : Int) - 2 ^ 32) := by
  have e : x.toInt = x.toBitVec.toInt := rfl
  have hl := x.toBitVec.isLt
  rw [e, BitVec.toInt_eq_toNat_cond]
  by_cases h : 2 * x.toBitVec.toNat < 2 ^ 32
  · rw [if_pos h]; left; omega
  · rw [if_neg h]; right; omega
theorem q_rem_c {n : Nat} (h : q_pw n) (x : Int32) : ((x - x / nI n * nI n) < 0 ∧ (x - x / nI n * nI n) + nI n = nI (x.toBitVec.toNat % n)) ∨ (¬ (x - x / nI n * nI n) < 0 ∧ (x - x / nI n * nI n) = nI (x.toBitVec.toNat % n)) := by
  have h8 := q_pw_8 h
  have hr := q_rem_toInt x (nI n)
  rw [nI_toInt (n := n) (by omega)] at hr
  have hm : x.toBitVec.toNat % n < n := Nat.mod_lt _ (by omega)
  generalize hz : x - x / nI n * nI n = z at hr ⊢
  have hm2 : (nI (x.toBitVec.toNat % n)).toInt = ((x.toBitVec.toNat % n : Nat) : Int) := nI_toInt (by omega)
  have ha : (z + nI n).toInt = (z.toInt + (n : Int)).bmod (2 ^ 32) := by rw [Int32.toInt_add, nI_toInt (by omega)]
  have key : (z.toInt < 0 ∧ z.toInt + (n : Int) = ((x.toBitVec.toNat % n : Nat) : Int)) ∨ (0 ≤ z.toInt ∧ z.toInt = ((x.toBitVec.toNat % n : Nat) : Int)) := by
    rcases q_toInt_c x with ⟨c1, c2⟩ | ⟨c1, c3, c2⟩
    · right
      rw [hr, c2, Int.tmod_eq_emod_of_nonneg (by omega)]
      exact ⟨by omega, by omega⟩
    · have e : x.toInt.tmod (n : Int) = -((2 ^ 32 - (x.toBitVec.toNat : Int)) % (n : Int)) := by
        rw [c2, show (x.toBitVec.toNat : Int) - 2 ^ 32 = -(2 ^ 32 - (x.toBitVec.toNat : Int)) by omega, Int.neg_tmod, Int.tmod_eq_emod_of_nonneg (by omega)]
      rw [hr, e]
      rcases q_pw_c h with rfl | rfl | rfl | rfl | rfl | rfl | rfl | rfl <;> omega
  have hz0 : z < 0 ↔ z.toInt < 0 := by rw [Int32.lt_iff_toInt_lt]; rfl
  rcases key with ⟨k1, k2⟩ | ⟨k1, k2⟩
  · left
    refine ⟨hz0.mpr k1, Int32.toInt_inj.mp ?_⟩
    rw [ha, hm2, k2]
    exact Int.bmod_eq_of_le (by omega) (by omega)
  · right
    exact ⟨fun y => by have := hz0.mp y; omega, Int32.toInt_inj.mp (by rw [hm2, k2])⟩
theorem q_neg1 {e : Nat} (he : e < 2 ^ 30) : (-1 - nI e) < 0 := by
  rw [Int32.lt_iff_toInt_lt, Int32.toInt_sub, nI_toInt (by omega), show (-1 : Int32).toInt = -1 from by decide, show (0 : Int32).toInt = 0 from by decide, Int.bmod_eq_of_le (by omega) (by omega)]
  omega
theorem q_neg1' (e : Nat) : (-1 - (-1 - nI e)) = nI e := by
  rw [Int32.sub_eq_add_neg, Int32.sub_eq_add_neg, Int32.neg_add, Int32.neg_neg, Int32.sub_eq_add_neg, Int32.neg_neg, ← Int32.add_assoc, show (-1 : Int32) + 1 = 0 from rfl, Int32.zero_add]
def q_b (p : Prop) [Decidable p] : Int32 := if p then 1 else 0
theorem q_b_t {p : Prop} [Decidable p] (h : p) : q_b p = 1 := if_pos h
theorem q_b_f {p : Prop} [Decidable p] (h : ¬ p) : q_b p = 0 := if_neg h
theorem q_b_eq {p q : Prop} [Decidable p] [Decidable q] (h : p ↔ q) : q_b p = q_b q := by
  by_cases z : p
  · rw [q_b_t z, q_b_t (h.mp z)]
  · rw [q_b_f z, q_b_f (fun y => z (h.mpr y))]
theorem q_b_0 {p : Prop} [Decidable p] : q_b p = 0 ↔ ¬ p := by
  by_cases z : p
  · rw [q_b_t z]; exact ⟨fun y => absurd y (by decide), fun y => absurd z y⟩
  · rw [q_b_f z]; exact ⟨fun _ => z, fun _ => rfl⟩
theorem q_b_z (p : Prop) [Decidable p] : narrow .boolean (.int (q_b p)) = .int (q_b p) := by
  by_cases z : p
  · rw [q_b_t z]; rfl
  · rw [q_b_f z]; rfl
/-- the cursor as the class keeps it -/
def q_nx (nx : Option Nat) : Int32 := match nx with
  | none => -1
  | some c => nI c
theorem q_nI_m1 {c : Nat} (h : c < 2 ^ 31) : ¬ nI c = -1 := fun q => by
  have a := nI_toInt h
  rw [q, show (-1 : Int32).toInt = -1 from by decide] at a
  omega
theorem q_b_n0 {p : Prop} [Decidable p] (h : ¬ q_b p = 0) : p := Classical.byContradiction fun z => h (q_b_0.mpr z)
theorem q_le_t {a b : Nat} (ha : a < 2 ^ 31) (hb : b < 2 ^ 31) (h : nI a ≤ nI b) : a ≤ b := (nI_leI ha hb).mp h
theorem q_le_f {a b : Nat} (ha : a < 2 ^ 31) (hb : b < 2 ^ 31) (h : ¬ nI a ≤ nI b) : b < a := Nat.lt_of_not_le fun z => h ((nI_leI ha hb).mpr z)
theorem q_lt_t {a b : Nat} (ha : a < 2 ^ 31) (hb : b < 2 ^ 31) (h : nI a < nI b) : a < b := (nI_ltI ha hb).mp h
theorem q_lt_f {a b : Nat} (ha : a < 2 ^ 31) (hb : b < 2 ^ 31) (h : ¬ nI a < nI b) : b ≤ a := Nat.le_of_not_lt fun z => h ((nI_ltI ha hb).mpr z)
theorem q_eq_t {a b : Nat} (ha : a < 2 ^ 31) (hb : b < 2 ^ 31) (h : nI a = nI b) : a = b := (nI_eq ha hb).mp h
theorem q_eq_f {a b : Nat} (ha : a < 2 ^ 31) (hb : b < 2 ^ 31) (h : ¬ nI a = nI b) : a ≠ b := fun z => h (by rw [z])
