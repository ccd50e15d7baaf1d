/-! the loops that change a range: both sides in step; the answers' state is shown for every post -/
theorem bt_rr (f : Int32) (b : Nat) (hb : b < 64) (Q C D : Nat → Int32) : ∀ (d i : Nat) (P A B : Nat → Int32), b + 1 ≤ i + d → i < 65 → bt_Al P A B → ∃ P' A' B' : Nat → Int32, bt_Al P' A' B' ∧ (∀ post : Int32 → SX → Prop, post 1 (f, P', A', Q, C) → wX_removeRange_12 post (nI b) f (d + 1) (nI i) P A Q C) ∧ (∀ post : Int32 → SY → Prop, post 1 (f, P', B', Q, D) → wY_removeRange_13 post (nI b) f (d + 1) (nI i) P B Q D) := by
  intro d
  induction d with
  | zero =>
    intro i P A B hi h65 hA
    have h : nI b < nI i := nI_lt (by omega) (by omega)
    exact ⟨P, A, B, hA, fun _ hp => br_t h hp, fun _ hp => br_t h hp⟩
  | succ d ih =>
    intro i P A B hi h65 hA
    by_cases hc : b < i
    · have h : nI b < nI i := nI_lt hc (by omega)
      exact ⟨P, A, B, hA, fun _ hp => br_t h hp, fun _ hp => br_t h hp⟩
    · have h : ¬ nI b < nI i := nI_nlt (by omega) (by omega)
      have hn : vp_in (nI i) 64 := vp_in_nI (by omega) (by omega)
      obtain ⟨P', A', B', hA', hX, hY⟩ := ih (i + 1) (upd P (nI i).toNatClampNeg (vp_nar .boolean 0)) A B (by omega) (by omega) (bt_aP hA (fun z => absurd rfl z))
      exact ⟨P', A', B', hA', fun post hp => br_f h ⟨hn, nm_e (nm_r (nI_1 i) (hX post hp))⟩, fun post hp => br_f h ⟨hn, nm_e (nm_r (nI_1 i) (hY post hp))⟩⟩
theorem bt_ar (f x : Int32) (b : Nat) (hb : b < 64) (Q C D : Nat → Int32) : ∀ (d i : Nat) (P A B : Nat → Int32), b + 1 ≤ i + d → i < 65 → bt_Al P A B → ∃ P' A' B' : Nat → Int32, bt_Al P' A' B' ∧ (∀ post : Int32 → SX → Prop, post 1 (f, P', A', Q, C) → wX_addRange_13 post (nI b) x f (d + 1) (nI i) P A Q C) ∧ (∀ post : Int32 → SY → Prop, post 1 (f, P', B', Q, D) → wY_addRange_14 post (nI b) x f (d + 1) (nI i) P B Q D) := by
  intro d
  induction d with
  | zero =>
    intro i P A B hi h65 hA
    have h : nI b < nI i := nI_lt (by omega) (by omega)
    exact ⟨P, A, B, hA, fun _ hp => br_t h hp, fun _ hp => br_t h hp⟩
  | succ d ih =>
    intro i P A B hi h65 hA
    by_cases hc : b < i
    · have h : nI b < nI i := nI_lt hc (by omega)
      exact ⟨P, A, B, hA, fun _ hp => br_t h hp, fun _ hp => br_t h hp⟩
    · have h : ¬ nI b < nI i := nI_nlt (by omega) (by omega)
      have hn : vp_in (nI i) 64 := vp_in_nI (by omega) (by omega)
      by_cases z : P (nI i).toNatClampNeg = 0
      · obtain ⟨P', A', B', hA', hX, hY⟩ := ih (i + 1) P A (upd B (nI i).toNatClampNeg (B (nI i).toNatClampNeg + x)) (by omega) (by omega) (bt_aW hA (fun y => absurd z y))
        exact ⟨P', A', B', hA', fun post hp => br_f h ⟨hn, br_t z (nm_r (nI_1 i) (hX post hp))⟩, fun post hp => br_f h ⟨hn, hn, nm_e (nm_r (nI_1 i) (hY post hp))⟩⟩
      · obtain ⟨P', A', B', hA', hX, hY⟩ := ih (i + 1) P (upd A (nI i).toNatClampNeg (A (nI i).toNatClampNeg + x)) (upd B (nI i).toNatClampNeg (B (nI i).toNatClampNeg + x)) (by omega) (by omega) (bt_aV hA (fun _ => by rw [hA.2 _ z]))
        exact ⟨P', A', B', hA', fun post hp => br_f h ⟨hn, br_f z ⟨hn, hn, nm_e (nm_r (nI_1 i) (hX post hp))⟩⟩, fun post hp => br_f h ⟨hn, hn, nm_e (nm_r (nI_1 i) (hY post hp))⟩⟩
theorem bt_ra (f x : Int32) (b : Nat) (hb : b < 64) (Q C D : Nat → Int32) : ∀ (d i : Nat) (P A B : Nat → Int32), b + 1 ≤ i + d → i < 65 → bt_Al P A B → ∃ P' A' B' : Nat → Int32, bt_Al P' A' B' ∧ (∀ post : Int32 → SX → Prop, post 1 (f, P', A', Q, C) → wX_raiseRange_13 post (nI b) x f (d + 1) (nI i) P A Q C) ∧ (∀ post : Int32 → SY → Prop, post 1 (f, P', B', Q, D) → wY_raiseRange_14 post (nI b) x f (d + 1) (nI i) P B Q D) := by
  intro d
  induction d with
  | zero =>
    intro i P A B hi h65 hA
    have h : nI b < nI i := nI_lt (by omega) (by omega)
    exact ⟨P, A, B, hA, fun _ hp => br_t h hp, fun _ hp => br_t h hp⟩
  | succ d ih =>
    intro i P A B hi h65 hA
    by_cases hc : b < i
    · have h : nI b < nI i := nI_lt hc (by omega)
      exact ⟨P, A, B, hA, fun _ hp => br_t h hp, fun _ hp => br_t h hp⟩
    · have h : ¬ nI b < nI i := nI_nlt (by omega) (by omega)
      have hn : vp_in (nI i) 64 := vp_in_nI (by omega) (by omega)
      by_cases z : P (nI i).toNatClampNeg = 0
      · by_cases y : x ≤ B (nI i).toNatClampNeg
        · obtain ⟨P', A', B', hA', hX, hY⟩ := ih (i + 1) P A (upd B (nI i).toNatClampNeg (B (nI i).toNatClampNeg)) (by omega) (by omega) (bt_aW hA (fun y => absurd z y))
          exact ⟨P', A', B', hA', fun post hp => br_f h ⟨hn, br_t z (nm_r (nI_1 i) (hX post hp))⟩, fun post hp => br_f h ⟨hn, br_t y ⟨hn, hn, nm_e (nm_r (nI_1 i) (hY post hp))⟩⟩⟩
        · obtain ⟨P', A', B', hA', hX, hY⟩ := ih (i + 1) P A (upd B (nI i).toNatClampNeg x) (by omega) (by omega) (bt_aW hA (fun y => absurd z y))
          exact ⟨P', A', B', hA', fun post hp => br_f h ⟨hn, br_t z (nm_r (nI_1 i) (hX post hp))⟩, fun post hp => br_f h ⟨hn, br_f y ⟨hn, nm_e (nm_r (nI_1 i) (hY post hp))⟩⟩⟩
      · have e : A (nI i).toNatClampNeg = B (nI i).toNatClampNeg := hA.2 _ z
        by_cases y : x ≤ B (nI i).toNatClampNeg
        · have y' : x ≤ A (nI i).toNatClampNeg := by rw [e]; exact y
          obtain ⟨P', A', B', hA', hX, hY⟩ := ih (i + 1) P A (upd B (nI i).toNatClampNeg (B (nI i).toNatClampNeg)) (by omega) (by omega) (bt_aW hA (fun _ => e))
          exact ⟨P', A', B', hA', fun post hp => br_f h ⟨hn, br_f z ⟨hn, br_t y' (nm_r (nI_1 i) (hX post hp))⟩⟩, fun post hp => br_f h ⟨hn, br_t y ⟨hn, hn, nm_e (nm_r (nI_1 i) (hY post hp))⟩⟩⟩
        · have y' : ¬ x ≤ A (nI i).toNatClampNeg := by rw [e]; exact y
          obtain ⟨P', A', B', hA', hX, hY⟩ := ih (i + 1) P (upd A (nI i).toNatClampNeg x) (upd B (nI i).toNatClampNeg x) (by omega) (by omega) (bt_aV hA (fun _ => rfl))
          exact ⟨P', A', B', hA', fun post hp => br_f h ⟨hn, br_f z ⟨hn, br_f y' ⟨hn, nm_e (nm_r (nI_1 i) (hX post hp))⟩⟩⟩, fun post hp => br_f h ⟨hn, br_f y ⟨hn, nm_e (nm_r (nI_1 i) (hY post hp))⟩⟩⟩
theorem bt_fr (f x : Int32) (b : Nat) (hb : b < 64) (Q C D : Nat → Int32) : ∀ (d i : Nat) (P A B : Nat → Int32), b + 1 ≤ i + d → i < 65 → bt_Al P A B → ∃ P' A' B' : Nat → Int32, bt_Al P' A' B' ∧ (∀ post : Int32 → SX → Prop, post 1 (f, P', A', Q, C) → wX_fillRange_13 post (nI b) x f (d + 1) (nI i) P A Q C) ∧ (∀ post : Int32 → SY → Prop, post 1 (f, P', B', Q, D) → wY_fillRange_14 post (nI b) x f (d + 1) (nI i) P B Q D) := by
  intro d
  induction d with
  | zero =>
    intro i P A B hi h65 hA
    have h : nI b < nI i := nI_lt (by omega) (by omega)
    exact ⟨P, A, B, hA, fun _ hp => br_t h hp, fun _ hp => br_t h hp⟩
  | succ d ih =>
    intro i P A B hi h65 hA
    by_cases hc : b < i
    · have h : nI b < nI i := nI_lt hc (by omega)
      exact ⟨P, A, B, hA, fun _ hp => br_t h hp, fun _ hp => br_t h hp⟩
    · have h : ¬ nI b < nI i := nI_nlt (by omega) (by omega)
      have hn : vp_in (nI i) 64 := vp_in_nI (by omega) (by omega)
      by_cases z : P (nI i).toNatClampNeg = 0
      · obtain ⟨P', A', B', hA', hX, hY⟩ := ih (i + 1) (upd P (nI i).toNatClampNeg (vp_nar .boolean 1)) (upd A (nI i).toNatClampNeg x) (upd B (nI i).toNatClampNeg x) (by omega) (by omega) (bt_a3 hA (fun _ => rfl))
        exact ⟨P', A', B', hA', fun post hp => br_f h ⟨hn, br_t z ⟨hn, nm_e ⟨hn, nm_e (nm_r (nI_1 i) (hX post hp))⟩⟩⟩, fun post hp => br_f h ⟨hn, br_t z (And.intro hn (nm_e (And.intro hn (nm_e (nm_r (nI_1 i) (hY post hp))))))⟩⟩
      · have e1 : P (nI i).toNatClampNeg = vp_nar .boolean 1 := by
          rw [bt_n1]
          exact (hA.1 _).resolve_left z
        obtain ⟨P', A', B', hA', hX, hY⟩ := ih (i + 1) P A B (by omega) (by omega) hA
        exact ⟨P', A', B', hA', fun post hp => br_f h ⟨hn, br_f z (nm_r (nI_1 i) (hX post hp))⟩, fun post hp => br_f h ⟨hn, br_f z ⟨hn, And.intro hn (nm_r (bt_same rfl) (And.intro hn (nm_r (bt_same e1) (nm_r (nI_1 i) (hY post hp)))))⟩⟩⟩
