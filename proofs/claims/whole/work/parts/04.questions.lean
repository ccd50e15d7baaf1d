/-! the questions' loops: one answer r that both sides reach, for every post -/
theorem bt_cn (f : Int32) (P A B Q C D : Nat → Int32) (b : Nat) (hb : b < 64) : ∀ (d i : Nat) (c : Int32), b + 1 ≤ i + d → i < 65 → ∃ r : Int32, (∀ post : Int32 → Prop, post r → wX_presentIn_5 post (nI b) f P A Q C (d + 1) c (nI i)) ∧ (∀ post : Int32 → Prop, post r → wY_count_16 post (nI b) f P B Q D (d + 1) c (nI i)) := by
  intro d
  induction d with
  | zero =>
    intro i c hi h65
    have h : nI b < nI i := nI_lt (by omega) (by omega)
    exact ⟨c, fun _ hp => br_t h hp, fun _ hp => br_t h hp⟩
  | succ d ih =>
    intro i c hi h65
    by_cases hc : b < i
    · have h : nI b < nI i := nI_lt hc (by omega)
      exact ⟨c, fun _ hp => br_t h hp, fun _ hp => br_t h hp⟩
    · have h : ¬ nI b < nI i := nI_nlt (by omega) (by omega)
      have hn : vp_in (nI i) 64 := vp_in_nI (by omega) (by omega)
      by_cases z : P (nI i).toNatClampNeg = 0
      · obtain ⟨r, hX, hY⟩ := ih (i + 1) c (by omega) (by omega)
        exact ⟨r, fun post hp => br_f h ⟨hn, br_t z (nm_r (nI_1 i) (hX post hp))⟩, fun post hp => br_f h ⟨hn, br_t z (nm_r (nI_1 i) (hY post hp))⟩⟩
      · obtain ⟨r, hX, hY⟩ := ih (i + 1) (c + 1) (by omega) (by omega)
        exact ⟨r, fun post hp => br_f h ⟨hn, br_f z (nm_e (nm_r (nI_1 i) (hX post hp)))⟩, fun post hp => br_f h ⟨hn, br_f z (nm_e (nm_r (nI_1 i) (hY post hp)))⟩⟩
theorem bt_sm (f : Int32) (P A B Q C D : Nat → Int32) (hA : bt_Al P A B) (b : Nat) (hb : b < 64) : ∀ (d i : Nat) (c : Int32), b + 1 ≤ i + d → i < 65 → ∃ r : Int32, (∀ post : Int32 → Prop, post r → wX_sum_15 post (nI b) f P A Q C (d + 1) c (nI i)) ∧ (∀ post : Int32 → Prop, post r → wY_sum_16 post (nI b) f P B Q D (d + 1) c (nI i)) := by
  intro d
  induction d with
  | zero =>
    intro i c hi h65
    have h : nI b < nI i := nI_lt (by omega) (by omega)
    exact ⟨c, fun _ hp => br_t h hp, fun _ hp => br_t h hp⟩
  | succ d ih =>
    intro i c hi h65
    by_cases hc : b < i
    · have h : nI b < nI i := nI_lt hc (by omega)
      exact ⟨c, fun _ hp => br_t h hp, fun _ hp => br_t h hp⟩
    · have h : ¬ nI b < nI i := nI_nlt (by omega) (by omega)
      have hn : vp_in (nI i) 64 := vp_in_nI (by omega) (by omega)
      by_cases z : P (nI i).toNatClampNeg = 0
      · obtain ⟨r, hX, hY⟩ := ih (i + 1) c (by omega) (by omega)
        exact ⟨r, fun post hp => br_f h ⟨hn, br_t z (nm_r (nI_1 i) (hX post hp))⟩, fun post hp => br_f h ⟨hn, br_t z (nm_r (nI_1 i) (hY post hp))⟩⟩
      · have e : B (nI i).toNatClampNeg = A (nI i).toNatClampNeg := (hA.2 _ z).symm
        obtain ⟨r, hX, hY⟩ := ih (i + 1) (c + A (nI i).toNatClampNeg) (by omega) (by omega)
        exact ⟨r, fun post hp => br_f h ⟨hn, br_f z ⟨hn, nm_e (nm_r (nI_1 i) (hX post hp))⟩⟩, fun post hp => br_f h ⟨hn, br_f z ⟨hn, nm_r (congrArg (fun t => c + t) e) (nm_r (nI_1 i) (hY post hp))⟩⟩⟩
theorem bt_gr (f : Int32) (P A B Q C D : Nat → Int32) (hA : bt_Al P A B) (b : Nat) (hb : b < 64) : ∀ (d i : Nat) (c : Int32), b + 1 ≤ i + d → i < 65 → ∃ r : Int32, (∀ post : Int32 → Prop, post r → wX_greatest_17 post (nI b) f P A Q C (d + 1) c (nI i)) ∧ (∀ post : Int32 → Prop, post r → wY_greatest_17 post (nI b) f P B Q D (d + 1) c (nI i)) := by
  intro d
  induction d with
  | zero =>
    intro i c hi h65
    have h : nI b < nI i := nI_lt (by omega) (by omega)
    exact ⟨c, fun _ hp => br_t h hp, fun _ hp => br_t h hp⟩
  | succ d ih =>
    intro i c hi h65
    by_cases hc : b < i
    · have h : nI b < nI i := nI_lt hc (by omega)
      exact ⟨c, fun _ hp => br_t h hp, fun _ hp => br_t h hp⟩
    · have h : ¬ nI b < nI i := nI_nlt (by omega) (by omega)
      have hn : vp_in (nI i) 64 := vp_in_nI (by omega) (by omega)
      by_cases z : P (nI i).toNatClampNeg = 0
      · obtain ⟨r, hX, hY⟩ := ih (i + 1) c (by omega) (by omega)
        exact ⟨r, fun post hp => br_f h ⟨hn, br_t z (nm_r (nI_1 i) (hX post hp))⟩, fun post hp => br_f h ⟨hn, br_t z (nm_r (nI_1 i) (hY post hp))⟩⟩
      · have e : B (nI i).toNatClampNeg = A (nI i).toNatClampNeg := (hA.2 _ z).symm
        by_cases y : A (nI i).toNatClampNeg ≤ c
        · have y' : B (nI i).toNatClampNeg ≤ c := by rw [e]; exact y
          obtain ⟨r, hX, hY⟩ := ih (i + 1) c (by omega) (by omega)
          exact ⟨r, fun post hp => br_f h ⟨hn, br_f z ⟨hn, br_t y (nm_r (nI_1 i) (hX post hp))⟩⟩, fun post hp => br_f h ⟨hn, br_f z ⟨hn, br_t y' (nm_r (nI_1 i) (hY post hp))⟩⟩⟩
        · have y' : ¬ B (nI i).toNatClampNeg ≤ c := by rw [e]; exact y
          obtain ⟨r, hX, hY⟩ := ih (i + 1) (A (nI i).toNatClampNeg) (by omega) (by omega)
          exact ⟨r, fun post hp => br_f h ⟨hn, br_f z ⟨hn, br_f y ⟨hn, nm_e (nm_r (nI_1 i) (hX post hp))⟩⟩⟩, fun post hp => br_f h ⟨hn, br_f z ⟨hn, br_f y' ⟨hn, nm_r e (nm_r (nI_1 i) (hY post hp))⟩⟩⟩⟩
theorem bt_nx (f x : Int32) (P A B Q C D : Nat → Int32) : ∀ d i : Nat, i + d = 64 → ∃ r : Int32, (∀ post : Int32 → Prop, post r → wX_next_2 post x f P A Q C (d + 1) (nI i)) ∧ (∀ post : Int32 → Prop, post r → wY_next_2 post x f P B Q D (d + 1) (nI i)) := by
  intro d
  induction d with
  | zero =>
    intro i hi
    have h : 64 ≤ nI i := nI_le (a := 64) (by omega) (by omega)
    exact ⟨-2, fun _ hp => br_t h hp, fun _ hp => br_t h hp⟩
  | succ d ih =>
    intro i hi
    have h : ¬ 64 ≤ nI i := nI_ge (b := 64) (by omega) (by decide)
    have hn : vp_in (nI i) 64 := vp_in_nI (by omega) (by omega)
    obtain ⟨r, hX, hY⟩ := ih (i + 1) (by omega)
    by_cases y : nI i < x
    · exact ⟨r, fun post hp => br_f h (br_t y (nm_r (nI_1 i) (hX post hp))), fun post hp => br_f h (br_t y (nm_r (nI_1 i) (hY post hp)))⟩
    · by_cases z : P (nI i).toNatClampNeg = 0
      · exact ⟨r, fun post hp => br_f h (br_f y ⟨hn, br_t z (nm_r (nI_1 i) (hX post hp))⟩), fun post hp => br_f h (br_f y ⟨hn, br_t z (nm_r (nI_1 i) (hY post hp))⟩)⟩
      · exact ⟨nI i, fun post hp => br_f h (br_f y ⟨hn, br_f z hp⟩), fun post hp => br_f h (br_f y ⟨hn, br_f z hp⟩)⟩
theorem bt_pv (f x : Int32) (P A B Q C D : Nat → Int32) : ∀ n : Nat, n ≤ 64 → ∃ r : Int32, (∀ post : Int32 → Prop, post r → wX_previous_3 post x f P A Q C (n + 1) (nI n + (-1))) ∧ (∀ post : Int32 → Prop, post r → wY_previous_3 post x f P B Q D (n + 1) (nI n + (-1))) := by
  intro n
  induction n with
  | zero =>
    intro _
    have h : nI 0 + (-1) < 0 := by decide +kernel
    exact ⟨-2, fun _ hp => br_t h hp, fun _ hp => br_t h hp⟩
  | succ n ih =>
    intro hi
    rw [pk_m1]
    have h : ¬ nI n < 0 := nI_pos (by omega)
    have hn : vp_in (nI n) 64 := vp_in_nI (by omega) (by omega)
    obtain ⟨r, hX, hY⟩ := ih (by omega)
    by_cases y : x < nI n
    · exact ⟨r, fun post hp => br_f h (br_t y (nm_e (hX post hp))), fun post hp => br_f h (br_t y (nm_e (hY post hp)))⟩
    · by_cases z : P (nI n).toNatClampNeg = 0
      · exact ⟨r, fun post hp => br_f h (br_f y ⟨hn, br_t z (nm_e (hX post hp))⟩), fun post hp => br_f h (br_f y ⟨hn, br_t z (nm_e (hY post hp))⟩)⟩
      · exact ⟨nI n, fun post hp => br_f h (br_f y ⟨hn, br_f z hp⟩), fun post hp => br_f h (br_f y ⟨hn, br_f z hp⟩)⟩
theorem bt_d0 (x c : Int32) (h : ¬ c = x) : ¬ x - c = 0 := fun z => h (by grind)
theorem bt_d1 (x c : Int32) : x - c + (-1) = x - (c + 1) := by grind
theorem bt_ka (f x : Int32) (P A B Q C D : Nat → Int32) : ∀ (d i : Nat) (c : Int32), i + d = 64 → ∃ r : Int32, (∀ post : Int32 → Prop, post r → wX_keyAt_4 post x f P A Q C (d + 1) c (nI i)) ∧ (∀ post : Int32 → Prop, post r → wY_keyAt_4 post f P B Q D (d + 1) (x - c) (nI i)) := by
  intro d
  induction d with
  | zero =>
    intro i c hi
    have h : 64 ≤ nI i := nI_le (a := 64) (by omega) (by omega)
    exact ⟨-2, fun _ hp => br_t h hp, fun _ hp => br_t h hp⟩
  | succ d ih =>
    intro i c hi
    have h : ¬ 64 ≤ nI i := nI_ge (b := 64) (by omega) (by decide)
    have hn : vp_in (nI i) 64 := vp_in_nI (by omega) (by omega)
    by_cases z : P (nI i).toNatClampNeg = 0
    · obtain ⟨r, hX, hY⟩ := ih (i + 1) c (by omega)
      exact ⟨r, fun post hp => br_f h ⟨hn, br_t z (nm_r (nI_1 i) (hX post hp))⟩, fun post hp => br_f h ⟨hn, br_t z (nm_r (nI_1 i) (hY post hp))⟩⟩
    · by_cases y : c = x
      · have y' : x - c = 0 := by rw [y]; exact Int32.sub_self x
        exact ⟨nI i, fun post hp => br_f h ⟨hn, br_f z (br_t y hp)⟩, fun post hp => br_f h ⟨hn, br_f z (br_t y' hp)⟩⟩
      · obtain ⟨r, hX, hY⟩ := ih (i + 1) (c + 1) (by omega)
        exact ⟨r, fun post hp => br_f h ⟨hn, br_f z (br_f y (nm_e (nm_r (nI_1 i) (hX post hp))))⟩, fun post hp => br_f h ⟨hn, br_f z (br_f (bt_d0 x c y) (nm_r (bt_d1 x c) (nm_r (nI_1 i) (hY post hp))))⟩⟩
