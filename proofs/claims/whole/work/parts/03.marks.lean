/-! mark, back and changedSince: the loops over 64 keys, both sides in step -/
theorem bt_mk (f : Int32) (s : Nat) (hs : s ≤ 128) (eY : 64 * f = nI s) (P A B : Nat → Int32) (hA : bt_Al P A B) : ∀ (d i : Nat) (Q C D : Nat → Int32), i + d = 64 → bt_Al Q C D → ∃ Q' C' D' : Nat → Int32, bt_Al Q' C' D' ∧ (∀ post : Int32 → SX → Prop, post (f + 1) (f + 1, P, A, Q', C') → wX_mark_21 post (nI s) f (d + 1) (nI i) P A Q C) ∧ (∀ post : Int32 → SY → Prop, post (f + 1) (f + 1, P, B, Q', D') → wY_mark_13 post f (d + 1) (nI i) P B Q D) := by
  intro d
  induction d with
  | zero =>
    intro i Q C D hi hK
    have h : 64 ≤ nI i := nI_le (a := 64) (by omega) (by omega)
    exact ⟨Q, C, D, hK, fun _ hp => br_t h (nm_e hp), fun _ hp => br_t h (nm_e hp)⟩
  | succ d ih =>
    intro i Q C D hi hK
    have h : ¬ 64 ≤ nI i := nI_ge (b := 64) (by omega) (by decide)
    have hn : vp_in (nI i) 64 := vp_in_nI (by omega) (by omega)
    have hq : vp_in (nI s + nI i) 192 := by rw [nI_add]; exact vp_in_nI (by omega) (by omega)
    obtain ⟨Q', C', D', hK', hX, hY⟩ := ih (i + 1) (upd Q (nI s + nI i).toNatClampNeg (vp_nar .boolean (P (nI i).toNatClampNeg))) (upd C (nI s + nI i).toNatClampNeg (A (nI i).toNatClampNeg)) (upd D (nI s + nI i).toNatClampNeg (B (nI i).toNatClampNeg)) (by omega) (bt_a3 hK (hA.2 _))
    refine ⟨Q', C', D', hK', fun post hp => br_f h ⟨hn, hq, nm_e ⟨hn, hq, nm_e (nm_r (nI_1 i) (hX post hp))⟩⟩, fun post hp => br_f h ⟨hn, by rw [eY]; exact hq, ?_⟩⟩
    intro a ea
    rw [eY] at ea
    subst ea
    refine ⟨hn, by rw [eY]; exact hq, ?_⟩
    intro b eb
    rw [eY] at eb
    subst eb
    exact nm_r (nI_1 i) (hY post hp)
theorem bt_bk (f : Int32) (s : Nat) (hs : s ≤ 128) (eY : 64 * f = nI s) (Q C D : Nat → Int32) (hK : bt_Al Q C D) : ∀ (d i : Nat) (P A B : Nat → Int32), i + d = 64 → bt_Al P A B → ∃ P' A' B' : Nat → Int32, bt_Al P' A' B' ∧ (∀ post : Int32 → SX → Prop, post f (f, P', A', Q, C) → wX_back_30 post (nI s) f (d + 1) (nI i) P A Q C) ∧ (∀ post : Int32 → SY → Prop, post f (f, P', B', Q, D) → wY_back_22 post f (d + 1) (nI i) P B Q D) := by
  intro d
  induction d with
  | zero =>
    intro i P A B hi hA
    have h : 64 ≤ nI i := nI_le (a := 64) (by omega) (by omega)
    exact ⟨P, A, B, hA, fun _ hp => br_t h hp, fun _ hp => br_t h hp⟩
  | succ d ih =>
    intro i P A B hi hA
    have h : ¬ 64 ≤ nI i := nI_ge (b := 64) (by omega) (by decide)
    have hn : vp_in (nI i) 64 := vp_in_nI (by omega) (by omega)
    have hq : vp_in (nI s + nI i) 192 := by rw [nI_add]; exact vp_in_nI (by omega) (by omega)
    obtain ⟨P', A', B', hA', hX, hY⟩ := ih (i + 1) (upd P (nI i).toNatClampNeg (vp_nar .boolean (Q (nI s + nI i).toNatClampNeg))) (upd A (nI i).toNatClampNeg (C (nI s + nI i).toNatClampNeg)) (upd B (nI i).toNatClampNeg (D (nI s + nI i).toNatClampNeg)) (by omega) (bt_a3 hA (hK.2 _))
    refine ⟨P', A', B', hA', fun post hp => br_f h ⟨hq, hn, nm_e ⟨hq, hn, nm_e (nm_r (nI_1 i) (hX post hp))⟩⟩, fun post hp => br_f h ⟨by rw [eY]; exact hq, hn, ?_⟩⟩
    intro a ea
    rw [eY] at ea
    subst ea
    refine ⟨by rw [eY]; exact hq, hn, ?_⟩
    intro b eb
    rw [eY] at eb
    subst eb
    exact nm_r (nI_1 i) (hY post hp)
theorem bt_cs (f : Int32) (s : Nat) (hs : s ≤ 128) (eY : 64 * f - 64 = nI s) (P A B Q C D : Nat → Int32) (hA : bt_Al P A B) (hK : bt_Al Q C D) : ∀ (d i : Nat) (c : Int32), i + d = 64 → ∃ r : Int32, (∀ post : Int32 → Prop, post r → wX_changedSince_24 post (nI s) f P A Q C (d + 1) c (nI i)) ∧ (∀ post : Int32 → Prop, post r → wY_changedSince_14 post f P B Q D (d + 1) c (nI i)) := by
  intro d
  induction d with
  | zero =>
    intro i c hi
    have h : 64 ≤ nI i := nI_le (a := 64) (by omega) (by omega)
    exact ⟨c, fun _ hp => br_t h hp, fun _ hp => br_t h hp⟩
  | succ d ih =>
    intro i c hi
    have h : ¬ 64 ≤ nI i := nI_ge (b := 64) (by omega) (by decide)
    have hn : vp_in (nI i) 64 := vp_in_nI (by omega) (by omega)
    have hq : vp_in (nI s + nI i) 192 := by rw [nI_add]; exact vp_in_nI (by omega) (by omega)
    by_cases e : P (nI i).toNatClampNeg = Q (nI s + nI i).toNatClampNeg
    · by_cases z : P (nI i).toNatClampNeg = 0
      · obtain ⟨r, hX, hY⟩ := ih (i + 1) c (by omega)
        refine ⟨r, fun post hp => br_f h (And.intro hn (And.intro hq (br_t e (And.intro hn (br_t z (br_t rfl (nm_r (nI_1 i) (hX post hp)))))))), fun post hp => br_f h ?_⟩
        intro t et
        rw [eY] at et
        subst et
        exact ⟨hn, hq, br_t e ⟨hn, br_t z (br_t rfl (nm_r (nI_1 i) (hY post hp)))⟩⟩
      · have eA : A (nI i).toNatClampNeg = B (nI i).toNatClampNeg := hA.2 _ z
        have eC : C (nI s + nI i).toNatClampNeg = D (nI s + nI i).toNatClampNeg := hK.2 _ (by rw [← e]; exact z)
        by_cases y : A (nI i).toNatClampNeg = C (nI s + nI i).toNatClampNeg
        · have y' : B (nI i).toNatClampNeg = D (nI s + nI i).toNatClampNeg := by rw [← eA, ← eC]; exact y
          obtain ⟨r, hX, hY⟩ := ih (i + 1) c (by omega)
          refine ⟨r, fun post hp => br_f h (And.intro hn (And.intro hq (br_t e (And.intro hn (br_f z (And.intro hn (And.intro hq (br_t y (br_t rfl (nm_r (nI_1 i) (hX post hp))))))))))), fun post hp => br_f h ?_⟩
          intro t et
          rw [eY] at et
          subst et
          exact ⟨hn, hq, br_t e ⟨hn, br_f z ⟨hn, hq, br_t y' (br_t rfl (nm_r (nI_1 i) (hY post hp)))⟩⟩⟩
        · have y' : ¬ B (nI i).toNatClampNeg = D (nI s + nI i).toNatClampNeg := by rw [← eA, ← eC]; exact y
          obtain ⟨r, hX, hY⟩ := ih (i + 1) (c + 1) (by omega)
          refine ⟨r, fun post hp => br_f h (And.intro hn (And.intro hq (br_t e (And.intro hn (br_f z (And.intro hn (And.intro hq (br_f y (br_f bt_10 (nm_e (nm_r (nI_1 i) (hX post hp)))))))))))), fun post hp => br_f h ?_⟩
          intro t et
          rw [eY] at et
          subst et
          exact ⟨hn, hq, br_t e ⟨hn, br_f z ⟨hn, hq, br_f y' (br_f bt_10 (nm_e (nm_r (nI_1 i) (hY post hp))))⟩⟩⟩
    · obtain ⟨r, hX, hY⟩ := ih (i + 1) (c + 1) (by omega)
      refine ⟨r, fun post hp => br_f h (And.intro hn (And.intro hq (br_f e (br_f bt_10 (nm_e (nm_r (nI_1 i) (hX post hp))))))), fun post hp => br_f h ?_⟩
      intro t et
      rw [eY] at et
      subst et
      exact ⟨hn, hq, br_f e (br_f bt_10 (nm_e (nm_r (nI_1 i) (hY post hp))))⟩
