/-! PURE: a slot freed, and the gap closed behind it -/
abbrev q_sh (t : q_TB) (i fr : Nat) : q_TB := (t.1, upd (upd t.2.1 fr 2) i 0, upd t.2.2.1 fr (t.2.2.1 i), upd t.2.2.2 fr (t.2.2.2 i))
abbrev q_rb (t : q_TB) (i fr : Nat) : Prop := q_rd t.1 fr i ≤ q_rd t.1 (q_hm t.1 (t.2.2.1 i)) i
def q_fz : Nat → q_TB → Nat → Nat → q_TB × Nat
  | 0, t, _, _ => (t, 0)
  | f + 1, t, fr, i => if t.2.1 i = 0 then (t, 0) else if q_rb t i fr then ((q_fz f (q_sh t i fr) i (q_ad t.1 i 1)).1, (q_fz f (q_sh t i fr) i (q_ad t.1 i 1)).2 + 1) else ((q_fz f t fr (q_ad t.1 i 1)).1, (q_fz f t fr (q_ad t.1 i 1)).2 + 1)
theorem q_fz_0 {f : Nat} {t : q_TB} {fr i : Nat} (h : t.2.1 i = 0) : q_fz f t fr i = (t, 0) := by
  cases f with
  | zero => rfl
  | succ f => exact if_pos h
theorem q_fz_1 {f : Nat} {t : q_TB} {fr i : Nat} (h : ¬ t.2.1 i = 0) (hb : q_rb t i fr) : q_fz (f + 1) t fr i = ((q_fz f (q_sh t i fr) i (q_ad t.1 i 1)).1, (q_fz f (q_sh t i fr) i (q_ad t.1 i 1)).2 + 1) := by
  rw [show q_fz (f + 1) t fr i = if t.2.1 i = 0 then (t, 0) else if q_rb t i fr then ((q_fz f (q_sh t i fr) i (q_ad t.1 i 1)).1, (q_fz f (q_sh t i fr) i (q_ad t.1 i 1)).2 + 1) else ((q_fz f t fr (q_ad t.1 i 1)).1, (q_fz f t fr (q_ad t.1 i 1)).2 + 1) from rfl, if_neg h, if_pos hb]
theorem q_fz_2 {f : Nat} {t : q_TB} {fr i : Nat} (h : ¬ t.2.1 i = 0) (hb : ¬ q_rb t i fr) : q_fz (f + 1) t fr i = ((q_fz f t fr (q_ad t.1 i 1)).1, (q_fz f t fr (q_ad t.1 i 1)).2 + 1) := by
  rw [show q_fz (f + 1) t fr i = if t.2.1 i = 0 then (t, 0) else if q_rb t i fr then ((q_fz f (q_sh t i fr) i (q_ad t.1 i 1)).1, (q_fz f (q_sh t i fr) i (q_ad t.1 i 1)).2 + 1) else ((q_fz f t fr (q_ad t.1 i 1)).1, (q_fz f t fr (q_ad t.1 i 1)).2 + 1) from rfl, if_neg h, if_neg hb]
theorem q_rd_split {n h d j : Nat} (hh : h < n) (hj : j < n) (hd : d ≤ q_rd n h j) : q_rd n (q_ad n h d) j = q_rd n h j - d := by
  rcases q_rd_c n h j with ⟨h1, e1⟩ | ⟨h1, e1⟩ <;> rcases q_ad_c n h d with ⟨h2, e2⟩ | ⟨h2, e2⟩ <;> rcases q_rd_c n (q_ad n h d) j with ⟨h3, e3⟩ | ⟨h3, e3⟩ <;> omega
/-- fr lies on the way from h to i -/
theorem q_rd_way {n h fr i : Nat} (hh : h < n) (hf : fr < n) (hi : i < n) (hw : q_rd n fr i ≤ q_rd n h i) : q_rd n h fr + q_rd n fr i = q_rd n h i := by
  rcases q_rd_c n h fr with ⟨h1, e1⟩ | ⟨h1, e1⟩ <;> rcases q_rd_c n fr i with ⟨h2, e2⟩ | ⟨h2, e2⟩ <;> rcases q_rd_c n h i with ⟨h3, e3⟩ | ⟨h3, e3⟩ <;> omega
theorem q_rd_inj {n a b c : Nat} (ha : a < n) (hb : b < n) (hc : c < n) (h : q_rd n a b = q_rd n a c) : b = c := by
  rcases q_rd_c n a b with ⟨h1, e1⟩ | ⟨h1, e1⟩ <;> rcases q_rd_c n a c with ⟨h2, e2⟩ | ⟨h2, e2⟩ <;> omega
theorem q_rd_pos {n a b : Nat} (ha : a < n) (hb : b < n) (h : a ≠ b) : 0 < q_rd n a b := by
  rcases q_rd_c n a b with ⟨h1, e1⟩ | ⟨h1, e1⟩ <;> omega
/-- while the gap is being closed: the gap fr, the slot i that is looked at -/
def q_FI (t : q_TB) (fr i d : Nat) : Prop := fr < t.1 ∧ i < t.1 ∧ fr ≠ i ∧ t.2.1 fr = 0 ∧ q_NT t ∧ q_UQ t ∧ q_rd t.1 fr i + d < t.1 ∧ t.2.1 (q_ad t.1 i d) = 0 ∧
  ∀ j, j < t.1 → t.2.1 j = 2 → ∀ d, d < q_rd t.1 (q_hm t.1 (t.2.2.1 j)) j → t.2.1 (q_ad t.1 (q_hm t.1 (t.2.2.1 j)) d) = 0 → q_ad t.1 (q_hm t.1 (t.2.2.1 j)) d = fr ∧ q_rd t.1 fr i ≤ q_rd t.1 fr j
theorem q_FI_end {t : q_TB} {fr i d : Nat} (h : q_FI t fr i d) (h0 : t.2.1 i = 0) : q_PB t := by
  obtain ⟨hf, hi, hne, hf0, hN, hU, hd, hd0, hp⟩ := h
  intro j hj h2 e he hz
  obtain ⟨e1, e2⟩ := hp j hj h2 e he hz
  have hh : q_hm t.1 (t.2.2.1 j) < t.1 := q_hm_lt _ (by omega)
  have hij : i ≠ j := fun z => by rw [z, h2] at h0; exact absurd h0 (by decide)
  have hlt : q_rd t.1 fr i < q_rd t.1 fr j := Nat.lt_of_le_of_ne e2 fun z => hij (q_rd_inj hf hi hj z)
  have hs : q_rd t.1 fr j = q_rd t.1 (q_hm t.1 (t.2.2.1 j)) j - e := by rw [← e1]; exact q_rd_split hh hj (by omega)
  have hr := q_rd_lt hh hj
  have e3 : q_ad t.1 (q_hm t.1 (t.2.2.1 j)) (e + q_rd t.1 fr i) = i := by
    rw [← q_ad_ad hh (by omega), e1]; exact q_ad_rd hf hi
  have := hp j hj h2 (e + q_rd t.1 fr i) (by omega) (by rw [e3]; exact h0)
  rw [e3] at this
  exact hne this.1.symm
theorem q_FI_d {t : q_TB} {fr i d : Nat} (h : q_FI t fr i d) (h0 : ¬ t.2.1 i = 0) : 0 < d := by
  obtain ⟨hf, hi, hne, hf0, hN, hU, hd, hd0, hp⟩ := h
  cases d with
  | zero => rw [q_ad_0 hi] at hd0; exact absurd hd0 h0
  | succ d => omega
theorem q_FI_1 {t : q_TB} {fr i d : Nat} (h : q_FI t fr i (d + 1)) (h0 : ¬ t.2.1 i = 0) (hb : q_rb t i fr) : q_FI (q_sh t i fr) i (q_ad t.1 i 1) d := by
  obtain ⟨hf, hi, hne, hf0, hN, hU, hd, hd0, hp⟩ := h
  have hi2 : t.2.1 i = 2 := (hN i hi).elim (fun z => absurd z h0) id
  have hpos := q_rd_pos hf hi hne
  have hM : ∀ j, j ≠ i → j ≠ fr → upd (upd t.2.1 fr 2) i 0 j = t.2.1 j := fun j a b => by rw [pk_un a, pk_un b]
  have hMi : upd (upd t.2.1 fr 2) i 0 i = 0 := pk_us
  have hMf : upd (upd t.2.1 fr 2) i 0 fr = 2 := by rw [pk_un hne, pk_us]
  have hKf : upd t.2.2.1 fr (t.2.2.1 i) fr = t.2.2.1 i := pk_us
  have hK : ∀ j, j ≠ fr → upd t.2.2.1 fr (t.2.2.1 i) j = t.2.2.1 j := fun j a => pk_un a
  have hr1 : q_rd t.1 i (q_ad t.1 i 1) = 1 := q_rd_ad hi (by omega)
  have hp1 : q_ad t.1 (q_ad t.1 i 1) d = q_ad t.1 i (d + 1) := by rw [q_ad_ad hi (by omega), Nat.add_comm 1 d]
  have hpi : q_ad t.1 i (d + 1) ≠ i := fun z => by have := q_rd_ad (d := d + 1) hi (by omega); rw [z, q_rd_0] at this; omega
  have hpf : q_ad t.1 i (d + 1) ≠ fr := fun z => by
    have a : q_ad t.1 fr (q_rd t.1 fr i + (d + 1)) = fr := by rw [← q_ad_ad hf (by omega), q_ad_rd hf hi]; exact z
    have b := q_rd_ad (d := q_rd t.1 fr i + (d + 1)) hf (by omega)
    rw [a, q_rd_0] at b
    omega
  refine ⟨hi, q_ad_lt hi (by show 1 ≤ t.1; omega), ?_, hMi, ?_, ?_, ?_, ?_, ?_⟩
  · intro z
    show False
    rw [show q_ad t.1 i 1 = i from z.symm, q_rd_0] at hr1
    omega
  · intro j hj
    show upd (upd t.2.1 fr 2) i 0 j = 0 ∨ upd (upd t.2.1 fr 2) i 0 j = 2
    by_cases a : j = i
    · subst a; exact Or.inl hMi
    · by_cases b : j = fr
      · subst b; exact Or.inr hMf
      · rw [hM j a b]; exact hN j hj
  · intro a b ha hb2 ha2 hb3 hk
    have ha2 : upd (upd t.2.1 fr 2) i 0 a = 2 := ha2
    have hb3 : upd (upd t.2.1 fr 2) i 0 b = 2 := hb3
    have hk : upd t.2.2.1 fr (t.2.2.1 i) a = upd t.2.2.1 fr (t.2.2.1 i) b := hk
    have ai : a ≠ i := fun z => by rw [z, hMi] at ha2; exact absurd ha2 (by decide)
    have bi : b ≠ i := fun z => by rw [z, hMi] at hb3; exact absurd hb3 (by decide)
    by_cases za : a = fr <;> by_cases zb : b = fr
    · rw [za, zb]
    · subst za
      rw [hKf, hK b zb] at hk
      rw [hM b bi zb] at hb3
      exact absurd (hU i b hi hb2 hi2 hb3 hk) (fun z => bi z.symm)
    · subst zb
      rw [hKf, hK a za] at hk
      rw [hM a ai za] at ha2
      exact absurd (hU a i ha hi ha2 hi2 hk) ai
    · rw [hK a za, hK b zb] at hk
      rw [hM a ai za] at ha2
      rw [hM b bi zb] at hb3
      exact hU a b ha hb2 ha2 hb3 hk
  · show q_rd t.1 i (q_ad t.1 i 1) + d < t.1
    rw [hr1]; omega
  · show upd (upd t.2.1 fr 2) i 0 (q_ad t.1 (q_ad t.1 i 1) d) = 0
    rw [hp1, hM _ hpi hpf]; exact hd0
  · intro j hj h2 e he hz
    have hj : j < t.1 := hj
    have h2 : upd (upd t.2.1 fr 2) i 0 j = 2 := h2
    have he : e < q_rd t.1 (q_hm t.1 (upd t.2.2.1 fr (t.2.2.1 i) j)) j := he
    have hz : upd (upd t.2.1 fr 2) i 0 (q_ad t.1 (q_hm t.1 (upd t.2.2.1 fr (t.2.2.1 i) j)) e) = 0 := hz
    show q_ad t.1 (q_hm t.1 (upd t.2.2.1 fr (t.2.2.1 i) j)) e = i ∧ q_rd t.1 i (q_ad t.1 i 1) ≤ q_rd t.1 i j
    have ji : j ≠ i := fun z => by rw [z, hMi] at h2; exact absurd h2 (by decide)
    have hle : q_rd t.1 i (q_ad t.1 i 1) ≤ q_rd t.1 i j := by rw [hr1]; exact q_rd_pos hi hj (fun z => ji z.symm)
    refine ⟨?_, hle⟩
    by_cases pi : q_ad t.1 (q_hm t.1 (upd t.2.2.1 fr (t.2.2.1 i) j)) e = i
    · exact pi
    · have pf : q_ad t.1 (q_hm t.1 (upd t.2.2.1 fr (t.2.2.1 i) j)) e ≠ fr := fun z => by rw [z, hMf] at hz; exact absurd hz (by decide)
      rw [hM _ pi pf] at hz
      by_cases jf : j = fr
      · subst jf
        rw [hKf] at he hz pf
        have hh : q_hm t.1 (t.2.2.1 i) < t.1 := q_hm_lt _ (by omega)
        have hw := q_rd_way hh hf hi hb
        have := hp i hi hi2 e (by omega) hz
        exact absurd this.1 pf
      · rw [hK j jf] at he hz pf
        rw [hM j ji jf] at h2
        exact absurd (hp j hj h2 e he hz).1 pf
theorem q_FI_2 {t : q_TB} {fr i d : Nat} (h : q_FI t fr i (d + 1)) (h0 : ¬ t.2.1 i = 0) (hb : ¬ q_rb t i fr) : q_FI t fr (q_ad t.1 i 1) d := by
  obtain ⟨hf, hi, hne, hf0, hN, hU, hd, hd0, hp⟩ := h
  have hi2 : t.2.1 i = 2 := (hN i hi).elim (fun z => absurd z h0) id
  have e1 : q_ad t.1 i 1 = q_ad t.1 fr (q_rd t.1 fr i + 1) := by rw [← q_ad_ad hf (by omega), q_ad_rd hf hi]
  have e2 : q_rd t.1 fr (q_ad t.1 i 1) = q_rd t.1 fr i + 1 := by rw [e1]; exact q_rd_ad hf (by omega)
  refine ⟨hf, q_ad_lt hi (by omega), fun z => ?_, hf0, hN, hU, by rw [e2]; omega, ?_, ?_⟩
  · rw [← z, q_rd_0] at e2; omega
  · rw [q_ad_ad hi (by omega), Nat.add_comm 1 d]; exact hd0
  · intro j hj h2 e he hz
    obtain ⟨a1, a2⟩ := hp j hj h2 e he hz
    refine ⟨a1, ?_⟩
    rw [e2]
    rcases Nat.lt_or_ge (q_rd t.1 fr i) (q_rd t.1 fr j) with y | y
    · exact y
    · have ji : j = i := q_rd_inj hf hj hi (by omega)
      subst ji
      have hh : q_hm t.1 (t.2.2.1 j) < t.1 := q_hm_lt _ (by omega)
      have hs : q_rd t.1 fr j = q_rd t.1 (q_hm t.1 (t.2.2.1 j)) j - e := by rw [← a1]; exact q_rd_split hh hj (by omega)
      exact absurd (show q_rb t j fr by show q_rd t.1 fr j ≤ _; omega) hb
/-- what comes out of it -/
theorem q_fz_ok : ∀ (d f : Nat) (t : q_TB) (fr i : Nat), d < f → q_FI t fr i d → (q_fz f t fr i).1.1 = t.1 ∧ q_NT (q_fz f t fr i).1 ∧ q_PB (q_fz f t fr i).1 ∧ q_UQ (q_fz f t fr i).1 ∧ q_NK (q_fz f t fr i).1.2.1 t.1 = q_NK t.2.1 t.1 ∧ ∀ a, a < t.1 → (q_fz f t fr i).1.2.1 a = 2 → ∃ b, b < t.1 ∧ t.2.1 b = 2 ∧ (q_fz f t fr i).1.2.2.1 a = t.2.2.1 b := by
  intro d
  induction d with
  | zero =>
    intro f t fr i hf h
    have h0 : t.2.1 i = 0 := Classical.byContradiction fun z => absurd (q_FI_d h z) (Nat.lt_irrefl 0)
    rw [q_fz_0 h0]
    exact ⟨rfl, h.2.2.2.2.1, q_FI_end h h0, h.2.2.2.2.2.1, rfl, fun a ha h2 => ⟨a, ha, h2, rfl⟩⟩
  | succ d ih =>
    intro f t fr i hf h
    by_cases h0 : t.2.1 i = 0
    · rw [q_fz_0 h0]
      exact ⟨rfl, h.2.2.2.2.1, q_FI_end h h0, h.2.2.2.2.2.1, rfl, fun a ha h2 => ⟨a, ha, h2, rfl⟩⟩
    · obtain ⟨f, rfl⟩ : ∃ g, f = g + 1 := ⟨f - 1, by omega⟩
      by_cases hb : q_rb t i fr
      · rw [q_fz_1 h0 hb]
        obtain ⟨a1, a2, a3, a4, a5, a6⟩ := ih f (q_sh t i fr) i (q_ad t.1 i 1) (by omega) (q_FI_1 h h0 hb)
        refine ⟨a1, a2, a3, a4, ?_, ?_⟩
        · refine a5.trans ?_
          show q_NK (upd (upd t.2.1 fr 2) i 0) t.1 = q_NK t.2.1 t.1
          have hi2 : t.2.1 i = 2 := (h.2.2.2.2.1 i h.2.1).elim (fun z => absurd z h0) id
          have b1 := q_NK_up (M := t.2.1) (a := fr) (by rw [h.2.2.2.1]; decide) t.1 h.1
          have b2 := q_NK_dn (M := upd t.2.1 fr 2) (a := i) (x := 0) (by decide) (by rw [pk_un (fun z => h.2.2.1 z.symm)]; exact hi2) t.1 h.2.1
          omega
        · intro a ha h2
          obtain ⟨b, b1, b2, b3⟩ := a6 a ha h2
          have b2 : upd (upd t.2.1 fr 2) i 0 b = 2 := b2
          have b3 : (q_fz f (q_sh t i fr) i (q_ad t.1 i 1)).1.2.2.1 a = upd t.2.2.1 fr (t.2.2.1 i) b := b3
          have bi := q_up_2 (by decide) b2
          by_cases z : b = fr
          · subst z
            rw [pk_us] at b3
            exact ⟨i, h.2.1, (h.2.2.2.2.1 i h.2.1).elim (fun z => absurd z h0) id, b3⟩
          · rw [pk_un z] at b3
            exact ⟨b, b1, by rw [← bi.2, pk_un z], b3⟩
      · rw [q_fz_2 h0 hb]
        exact ih f t fr (q_ad t.1 i 1) (by omega) (q_FI_2 h h0 hb)
/-- the table with slot e freed, and how many slots it takes behind the first -/
def q_fr (t : q_TB) (e : Nat) : q_TB × Nat := q_fz (t.1 - 1) (t.1, upd t.2.1 e 0, t.2.2.1, t.2.2.2) e (q_ad t.1 e 1)
theorem q_fr_FI {t : q_TB} {e : Nat} (hN : q_NT t) (hP : q_PB t) (hU : q_UQ t) (hE : q_EM t) (he : e < t.1) (h2 : t.2.1 e = 2) : ∃ d, d < t.1 - 1 ∧ q_FI (t.1, upd t.2.1 e 0, t.2.2.1, t.2.2.2) e (q_ad t.1 e 1) d := by
  obtain ⟨z, hz, hz0⟩ := hE
  have hez : e ≠ z := fun y => by rw [← y, h2] at hz0; exact absurd hz0 (by decide)
  have hp := q_rd_pos he hz hez
  have hl := q_rd_lt he hz
  have hr1 : q_rd t.1 e (q_ad t.1 e 1) = 1 := q_rd_ad he (by omega)
  refine ⟨q_rd t.1 e z - 1, by omega, he, q_ad_lt he (by show 1 ≤ t.1; omega), fun y => ?_, pk_us, ?_, ?_, ?_, ?_, ?_⟩
  · show False
    rw [show q_ad t.1 e 1 = e from y.symm, q_rd_0] at hr1
    omega
  · intro j hj
    show upd t.2.1 e 0 j = 0 ∨ upd t.2.1 e 0 j = 2
    by_cases y : j = e
    · subst y; exact Or.inl pk_us
    · rw [pk_un y]; exact hN j hj
  · exact fun a b ha hb ha2 hb2 hk => hU a b ha hb (q_up_2 (by decide) ha2).2 (q_up_2 (by decide) hb2).2 hk
  · show q_rd t.1 e (q_ad t.1 e 1) + (q_rd t.1 e z - 1) < t.1
    rw [hr1]; omega
  · show upd t.2.1 e 0 (q_ad t.1 (q_ad t.1 e 1) (q_rd t.1 e z - 1)) = 0
    rw [q_ad_ad he (by omega), show 1 + (q_rd t.1 e z - 1) = q_rd t.1 e z by omega, q_ad_rd he hz, pk_un (fun y => hez y.symm)]
    exact hz0
  · intro j hj hj2 d hd hd0
    have hj : j < t.1 := hj
    obtain ⟨je, hj2⟩ := q_up_2 (by decide) (show upd t.2.1 e 0 j = 2 from hj2)
    have hd : d < q_rd t.1 (q_hm t.1 (t.2.2.1 j)) j := hd
    have hd0 : upd t.2.1 e 0 (q_ad t.1 (q_hm t.1 (t.2.2.1 j)) d) = 0 := hd0
    show q_ad t.1 (q_hm t.1 (t.2.2.1 j)) d = e ∧ q_rd t.1 e (q_ad t.1 e 1) ≤ q_rd t.1 e j
    refine ⟨Classical.byContradiction fun y => ?_, by rw [hr1]; exact q_rd_pos he hj (fun y => je y.symm)⟩
    rw [pk_un y] at hd0
    exact hP j hj hj2 d hd hd0
theorem q_fr_ok {t : q_TB} {e : Nat} (hN : q_NT t) (hP : q_PB t) (hU : q_UQ t) (hE : q_EM t) (he : e < t.1) (h2 : t.2.1 e = 2) : (q_fr t e).1.1 = t.1 ∧ q_NT (q_fr t e).1 ∧ q_PB (q_fr t e).1 ∧ q_UQ (q_fr t e).1 ∧ q_NK t.2.1 t.1 = q_NK (q_fr t e).1.2.1 t.1 + 1 ∧ ∀ a, a < t.1 → (q_fr t e).1.2.1 a = 2 → ∃ b, b < t.1 ∧ t.2.1 b = 2 ∧ (q_fr t e).1.2.2.1 a = t.2.2.1 b := by
  obtain ⟨d, hd, hF⟩ := q_fr_FI hN hP hU hE he h2
  obtain ⟨a1, a2, a3, a4, a5, a6⟩ := q_fz_ok d (t.1 - 1) _ e (q_ad t.1 e 1) hd hF
  have a5 : q_NK (q_fr t e).1.2.1 t.1 = q_NK (upd t.2.1 e 0) t.1 := a5
  refine ⟨a1, a2, a3, a4, ?_, fun a ha h3 => ?_⟩
  · rw [a5]; exact q_NK_dn (by decide) h2 t.1 he
  · obtain ⟨b, b1, b2, b3⟩ := a6 a ha h3
    exact ⟨b, b1, (q_up_2 (by decide) b2).2, b3⟩
