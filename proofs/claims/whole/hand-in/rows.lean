section
/- the first three rows are of the kit's rows to paste -/
theorem pk_sub {a b : Nat} (h : b ≤ a) : nI a - nI b = nI (a - b) := by
  obtain ⟨c, rfl⟩ : ∃ c, a = c + b := ⟨a - b, by omega⟩
  rw [← nI_add, Int32.add_sub_cancel, Nat.add_sub_cancel]
theorem pk_m1 (n : Nat) : nI (n + 1) + (-1) = nI n := by
  rw [← nI_1, Int32.add_assoc, show (1 : Int32) + (-1) = 0 from rfl, Int32.add_zero]
theorem pk_mul (a b : Nat) : nI a * nI b = nI (a * b) := (Int32.ofNat_mul a b).symm
theorem bt_10 : ¬ (1 : Int32) = 0 := by decide
theorem bt_64 : nI 64 = 64 := by decide +kernel
theorem bt_63 : (63 : Int32) = nI 64 + (-1) := by decide +kernel
theorem bt_n0 : vp_nar .boolean 0 = 0 := by rfl
theorem bt_nar {x : Int32} (h : ¬ vp_nar .boolean x = 0) : ¬ x = 0 := fun z => h (by rw [z]; exact bt_n0)
theorem bt_n1 : vp_nar .boolean 1 = 1 := by rfl
theorem bt_n01 (x : Int32) : vp_nar .boolean x = 0 ∨ vp_nar .boolean x = 1 := by
  have e : vp_nar .boolean x = x &&& 1 := rfl
  have h : (x &&& 1).toBitVec.toNat < 2 := by
    rw [Int32.toBitVec_and, BitVec.toNat_and]
    exact Nat.lt_of_le_of_lt Nat.and_le_right (by decide)
  rw [e]
  generalize x &&& 1 = y at h
  have h2 : y.toBitVec.toNat = 0 ∨ y.toBitVec.toNat = 1 := by omega
  rcases h2 with h2 | h2
  · exact Or.inl (Int32.toBitVec_inj.mp (BitVec.eq_of_toNat_eq h2))
  · exact Or.inr (Int32.toBitVec_inj.mp (BitVec.eq_of_toNat_eq h2))
theorem bt_us {f : Nat → Int32} {k : Nat} {x : Int32} : upd f k x k = x := if_pos rfl
theorem bt_un {f : Nat → Int32} {k j : Nat} {x : Int32} (h : ¬ j = k) : upd f k x j = f j := if_neg h
theorem bt_same {f : Nat → Int32} {k : Nat} {x : Int32} (h : f k = x) : upd f k x = f := by
  funext j
  by_cases e : j = k
  · rw [e, bt_us, h]
  · exact bt_un e
/-- p holds zeros and ones, and where it says that a key is present the two values are alike -/
def bt_Al (p a b : Nat → Int32) : Prop := (∀ j, p j = 0 ∨ p j = 1) ∧ ∀ j, ¬ p j = 0 → a j = b j
theorem bt_u01 {p : Nat → Int32} (q : Nat) (x : Int32) (h : ∀ j, p j = 0 ∨ p j = 1) : ∀ j, upd p q (vp_nar .boolean x) j = 0 ∨ upd p q (vp_nar .boolean x) j = 1 := by
  intro j
  by_cases e : j = q
  · rw [e, bt_us]
    exact bt_n01 x
  · rw [bt_un e]
    exact h j
theorem bt_a3 {p a b : Nat → Int32} {q : Nat} {x y z : Int32} (hA : bt_Al p a b) (h : ¬ x = 0 → y = z) : bt_Al (upd p q (vp_nar .boolean x)) (upd a q y) (upd b q z) := by
  refine ⟨bt_u01 q x hA.1, fun j hj => ?_⟩
  by_cases e : j = q
  · subst e
    rw [bt_us] at hj
    rw [bt_us, bt_us]
    exact h (bt_nar hj)
  · rw [bt_un e] at hj
    rw [bt_un e, bt_un e]
    exact hA.2 j hj
theorem bt_aP {p a b : Nat → Int32} {q : Nat} {x : Int32} (hA : bt_Al p a b) (h : ¬ x = 0 → a q = b q) : bt_Al (upd p q (vp_nar .boolean x)) a b := by
  refine ⟨bt_u01 q x hA.1, fun j hj => ?_⟩
  by_cases e : j = q
  · subst e
    rw [bt_us] at hj
    exact h (bt_nar hj)
  · rw [bt_un e] at hj
    exact hA.2 j hj
theorem bt_aV {p a b : Nat → Int32} {q : Nat} {y z : Int32} (hA : bt_Al p a b) (h : ¬ p q = 0 → y = z) : bt_Al p (upd a q y) (upd b q z) := by
  refine ⟨hA.1, fun j hj => ?_⟩
  by_cases e : j = q
  · subst e
    rw [bt_us, bt_us]
    exact h hj
  · rw [bt_un e, bt_un e]
    exact hA.2 j hj
theorem bt_aW {p a b : Nat → Int32} {q : Nat} {z : Int32} (hA : bt_Al p a b) (h : ¬ p q = 0 → a q = z) : bt_Al p a (upd b q z) := by
  refine ⟨hA.1, fun j hj => ?_⟩
  by_cases e : j = q
  · subst e
    rw [bt_us]
    exact h hj
  · rw [bt_un e]
    exact hA.2 j hj
/-- the relation: the same marks, the same presence now and in the marks, the same values where a key is present -/
def i_Rel (_ : Nat) (u : SX) (v : SY) : Prop := ∃ (m : Nat) (P A B Q C D : Nat → Int32), m ≤ 3 ∧ u = (nI m, P, A, Q, C) ∧ v = (nI m, P, B, Q, D) ∧ bt_Al P A B ∧ bt_Al Q C D
theorem bt_rel {k m : Nat} {P A B Q C D : Nat → Int32} (hm : m ≤ 3) (hA : bt_Al P A B) (hK : bt_Al Q C D) : i_Rel k (nI m, P, A, Q, C) (nI m, P, B, Q, D) := Exists.intro m ⟨P, A, B, Q, C, D, hm, rfl, rfl, hA, hK⟩
theorem i_up {k : Nat} {u : SX} {v : SY} (h : i_Rel k u v) : i_Rel (k + 4) u v := h
theorem i_vc0 : wpX_init (fun u => wpY_init (fun v => i_Rel 0 u v)) := bt_rel (k := 0) (m := 0) (Nat.zero_le 3) ⟨fun _ => Or.inl rfl, fun _ _ => rfl⟩ ⟨fun _ => Or.inl rfl, fun _ _ => rfl⟩
theorem bt_ix (x : Int32) : x < 0 ∨ (¬ x < 0 ∧ 64 ≤ x ∧ 63 < x) ∨ ∃ j : Nat, j < 64 ∧ x = nI j ∧ ¬ x < 0 ∧ ¬ 64 ≤ x ∧ ¬ 63 < x := by
  by_cases h0 : x < 0
  · exact Or.inl h0
  · obtain ⟨j, hj, rfl⟩ := nI_of h0
    by_cases h : j < 64
    · exact Or.inr (Or.inr ⟨j, h, rfl, h0, nI_ge (b := 64) h (by decide), nI_nlt (a := 63) (by omega) (by decide)⟩)
    · exact Or.inr (Or.inl ⟨h0, nI_le (a := 64) (by omega) hj, nI_lt (a := 63) (by omega) hj⟩)
theorem bt_kY1 {x : Int32} (h0 : ¬ x < 0) (h : ¬ 63 < x) (post : Int32 → Prop) (u : SY) (hp : post 1) : wpY_isKey post u x := by
  obtain ⟨f, p, a, q, c⟩ := u
  exact br_f h0 (br_f h hp)
theorem bt_kY0 {x : Int32} (h : x < 0 ∨ (¬ x < 0 ∧ 63 < x)) (post : Int32 → Prop) (u : SY) (hp : post 0) : wpY_isKey post u x := by
  obtain ⟨f, p, a, q, c⟩ := u
  rcases h with h | ⟨h0, h⟩
  · exact br_t h hp
  · exact br_f h0 (br_t h hp)
theorem bt_key (x : Int32) : ((∀ post : Int32 → Prop, post 0 → wpX_isKey post x) ∧ (∀ (post : Int32 → Prop) (u : SY), post 0 → wpY_isKey post u x)) ∨ (vp_in x 64 ∧ (∀ post : Int32 → Prop, post 1 → wpX_isKey post x) ∧ (∀ (post : Int32 → Prop) (u : SY), post 1 → wpY_isKey post u x)) := by
  rcases bt_ix x with h | ⟨h0, h, h'⟩ | ⟨j, hj, e, h0, h, h'⟩
  · exact Or.inl ⟨fun post hp => br_t h hp, bt_kY0 (Or.inl h)⟩
  · exact Or.inl ⟨fun post hp => br_f h0 (br_t h hp), bt_kY0 (Or.inr ⟨h0, h'⟩)⟩
  · exact Or.inr ⟨by rw [e]; exact vp_in_nI hj (by decide), fun post hp => br_f h0 (br_f h hp), bt_kY1 h0 h'⟩
theorem bt_pY {x y : Int32} (h0 : ¬ x < 0) (h : ¬ 63 < x) (g0 : ¬ y < 0) (g : ¬ 63 < y) (post : Int32 → Prop) (u : SY) (hp : post 1) : wpY_isPair post u x y := by
  obtain ⟨f, p, a, q, c⟩ := u
  unfold wpY_isPair
  dsimp only
  refine bt_kY1 h0 h _ _ (br_f bt_10 ?_)
  exact bt_kY1 g0 g _ _ (br_f bt_10 hp)
theorem bt_pY0 {x y : Int32} (h : x < 0 ∨ (¬ x < 0 ∧ 63 < x)) (post : Int32 → Prop) (u : SY) (hp : post 0) : wpY_isPair post u x y := by
  obtain ⟨f, p, a, q, c⟩ := u
  unfold wpY_isPair
  dsimp only
  exact bt_kY0 h _ _ (br_t rfl hp)
theorem bt_pY1 {x y : Int32} (h0 : ¬ x < 0) (h : ¬ 63 < x) (g : y < 0 ∨ (¬ y < 0 ∧ 63 < y)) (post : Int32 → Prop) (u : SY) (hp : post 0) : wpY_isPair post u x y := by
  obtain ⟨f, p, a, q, c⟩ := u
  unfold wpY_isPair
  dsimp only
  refine bt_kY1 h0 h _ _ (br_f bt_10 ?_)
  exact bt_kY0 g _ _ (br_t rfl hp)
theorem bt_keys (x y : Int32) : ((∀ post : Int32 → Prop, post 0 → wpX_areKeys post x y) ∧ (∀ (post : Int32 → Prop) (u : SY), post 0 → wpY_isPair post u x y)) ∨ (∃ i j : Nat, i < 64 ∧ j < 64 ∧ x = nI i ∧ y = nI j ∧ (∀ post : Int32 → Prop, post 1 → wpX_areKeys post x y) ∧ (∀ (post : Int32 → Prop) (u : SY), post 1 → wpY_isPair post u x y)) := by
  rcases bt_ix x with h | ⟨h0, h, h'⟩ | ⟨i, hi, e, h0, h, h'⟩
  · exact Or.inl ⟨fun post hp => br_t h hp, bt_pY0 (Or.inl h)⟩
  · exact Or.inl ⟨fun post hp => br_f h0 (br_t h hp), bt_pY0 (Or.inr ⟨h0, h'⟩)⟩
  · rcases bt_ix y with g | ⟨g0, g, g'⟩ | ⟨j, hj, e', g0, g, g'⟩
    · exact Or.inl ⟨fun post hp => br_f h0 (br_f h (br_t g hp)), bt_pY1 h0 h' (Or.inl g)⟩
    · exact Or.inl ⟨fun post hp => br_f h0 (br_f h (br_f g0 (br_t g hp))), bt_pY1 h0 h' (Or.inr ⟨g0, g'⟩)⟩
    · exact Or.inr ⟨i, j, hi, hj, e, e', fun post hp => br_f h0 (br_f h (br_f g0 (br_f g hp))), bt_pY h0 h' g0 g'⟩
end
section
/-! the loops that change a range: both sides in step; the answers' state is shown for every post -/
theorem bt_rr (f : Int32) (b : Nat) (hb : b < 64) (Q C D : Nat → Int32) : ∀ (d i : Nat) (P A B : Nat → Int32), b + 1 ≤ i + d → i < 65 → bt_Al P A B → ∃ P' A' B' : Nat → Int32, bt_Al P' A' B' ∧ (∀ post : Int32 → SX → Prop, post 1 (f, P', A', Q, C) → wX_removeRange_12 post (nI b) f (d + 1) (nI i) P A Q C) ∧ (∀ post : Int32 → SY → Prop, post 1 (f, P', B', Q, D) → wY_removeRange_13 post (nI b) f (d + 1) (nI i) P B Q D) := by
  intro d
  induction d with
  | zero =>
    intro i P A B hi h65 hA
    have h : nI b < nI i := nI_lt (by omega) (by omega)
    exact ⟨P, A, B, hA, fun _ hp => br_t h hp, fun _ hp => br_t h hp⟩
  | succ d ih =>
    intro i P A B hi h65 hA
    by_cases hc : b < i
    · have h : nI b < nI i := nI_lt hc (by omega)
      exact ⟨P, A, B, hA, fun _ hp => br_t h hp, fun _ hp => br_t h hp⟩
    · have h : ¬ nI b < nI i := nI_nlt (by omega) (by omega)
      have hn : vp_in (nI i) 64 := vp_in_nI (by omega) (by omega)
      obtain ⟨P', A', B', hA', hX, hY⟩ := ih (i + 1) (upd P (nI i).toNatClampNeg (vp_nar .boolean 0)) A B (by omega) (by omega) (bt_aP hA (fun z => absurd rfl z))
      exact ⟨P', A', B', hA', fun post hp => br_f h ⟨hn, nm_e (nm_r (nI_1 i) (hX post hp))⟩, fun post hp => br_f h ⟨hn, nm_e (nm_r (nI_1 i) (hY post hp))⟩⟩
theorem bt_ar (f x : Int32) (b : Nat) (hb : b < 64) (Q C D : Nat → Int32) : ∀ (d i : Nat) (P A B : Nat → Int32), b + 1 ≤ i + d → i < 65 → bt_Al P A B → ∃ P' A' B' : Nat → Int32, bt_Al P' A' B' ∧ (∀ post : Int32 → SX → Prop, post 1 (f, P', A', Q, C) → wX_addRange_13 post (nI b) x f (d + 1) (nI i) P A Q C) ∧ (∀ post : Int32 → SY → Prop, post 1 (f, P', B', Q, D) → wY_addRange_14 post (nI b) x f (d + 1) (nI i) P B Q D) := by
  intro d
  induction d with
  | zero =>
    intro i P A B hi h65 hA
    have h : nI b < nI i := nI_lt (by omega) (by omega)
    exact ⟨P, A, B, hA, fun _ hp => br_t h hp, fun _ hp => br_t h hp⟩
  | succ d ih =>
    intro i P A B hi h65 hA
    by_cases hc : b < i
    · have h : nI b < nI i := nI_lt hc (by omega)
      exact ⟨P, A, B, hA, fun _ hp => br_t h hp, fun _ hp => br_t h hp⟩
    · have h : ¬ nI b < nI i := nI_nlt (by omega) (by omega)
      have hn : vp_in (nI i) 64 := vp_in_nI (by omega) (by omega)
      by_cases z : P (nI i).toNatClampNeg = 0
      · obtain ⟨P', A', B', hA', hX, hY⟩ := ih (i + 1) P A (upd B (nI i).toNatClampNeg (B (nI i).toNatClampNeg + x)) (by omega) (by omega) (bt_aW hA (fun y => absurd z y))
        exact ⟨P', A', B', hA', fun post hp => br_f h ⟨hn, br_t z (nm_r (nI_1 i) (hX post hp))⟩, fun post hp => br_f h ⟨hn, hn, nm_e (nm_r (nI_1 i) (hY post hp))⟩⟩
      · obtain ⟨P', A', B', hA', hX, hY⟩ := ih (i + 1) P (upd A (nI i).toNatClampNeg (A (nI i).toNatClampNeg + x)) (upd B (nI i).toNatClampNeg (B (nI i).toNatClampNeg + x)) (by omega) (by omega) (bt_aV hA (fun _ => by rw [hA.2 _ z]))
        exact ⟨P', A', B', hA', fun post hp => br_f h ⟨hn, br_f z ⟨hn, hn, nm_e (nm_r (nI_1 i) (hX post hp))⟩⟩, fun post hp => br_f h ⟨hn, hn, nm_e (nm_r (nI_1 i) (hY post hp))⟩⟩
theorem bt_ra (f x : Int32) (b : Nat) (hb : b < 64) (Q C D : Nat → Int32) : ∀ (d i : Nat) (P A B : Nat → Int32), b + 1 ≤ i + d → i < 65 → bt_Al P A B → ∃ P' A' B' : Nat → Int32, bt_Al P' A' B' ∧ (∀ post : Int32 → SX → Prop, post 1 (f, P', A', Q, C) → wX_raiseRange_13 post (nI b) x f (d + 1) (nI i) P A Q C) ∧ (∀ post : Int32 → SY → Prop, post 1 (f, P', B', Q, D) → wY_raiseRange_14 post (nI b) x f (d + 1) (nI i) P B Q D) := by
  intro d
  induction d with
  | zero =>
    intro i P A B hi h65 hA
    have h : nI b < nI i := nI_lt (by omega) (by omega)
    exact ⟨P, A, B, hA, fun _ hp => br_t h hp, fun _ hp => br_t h hp⟩
  | succ d ih =>
    intro i P A B hi h65 hA
    by_cases hc : b < i
    · have h : nI b < nI i := nI_lt hc (by omega)
      exact ⟨P, A, B, hA, fun _ hp => br_t h hp, fun _ hp => br_t h hp⟩
    · have h : ¬ nI b < nI i := nI_nlt (by omega) (by omega)
      have hn : vp_in (nI i) 64 := vp_in_nI (by omega) (by omega)
      by_cases z : P (nI i).toNatClampNeg = 0
      · by_cases y : x ≤ B (nI i).toNatClampNeg
        · obtain ⟨P', A', B', hA', hX, hY⟩ := ih (i + 1) P A (upd B (nI i).toNatClampNeg (B (nI i).toNatClampNeg)) (by omega) (by omega) (bt_aW hA (fun y => absurd z y))
          exact ⟨P', A', B', hA', fun post hp => br_f h ⟨hn, br_t z (nm_r (nI_1 i) (hX post hp))⟩, fun post hp => br_f h ⟨hn, br_t y ⟨hn, hn, nm_e (nm_r (nI_1 i) (hY post hp))⟩⟩⟩
        · obtain ⟨P', A', B', hA', hX, hY⟩ := ih (i + 1) P A (upd B (nI i).toNatClampNeg x) (by omega) (by omega) (bt_aW hA (fun y => absurd z y))
          exact ⟨P', A', B', hA', fun post hp => br_f h ⟨hn, br_t z (nm_r (nI_1 i) (hX post hp))⟩, fun post hp => br_f h ⟨hn, br_f y ⟨hn, nm_e (nm_r (nI_1 i) (hY post hp))⟩⟩⟩
      · have e : A (nI i).toNatClampNeg = B (nI i).toNatClampNeg := hA.2 _ z
        by_cases y : x ≤ B (nI i).toNatClampNeg
        · have y' : x ≤ A (nI i).toNatClampNeg := by rw [e]; exact y
          obtain ⟨P', A', B', hA', hX, hY⟩ := ih (i + 1) P A (upd B (nI i).toNatClampNeg (B (nI i).toNatClampNeg)) (by omega) (by omega) (bt_aW hA (fun _ => e))
          exact ⟨P', A', B', hA', fun post hp => br_f h ⟨hn, br_f z ⟨hn, br_t y' (nm_r (nI_1 i) (hX post hp))⟩⟩, fun post hp => br_f h ⟨hn, br_t y ⟨hn, hn, nm_e (nm_r (nI_1 i) (hY post hp))⟩⟩⟩
        · have y' : ¬ x ≤ A (nI i).toNatClampNeg := by rw [e]; exact y
          obtain ⟨P', A', B', hA', hX, hY⟩ := ih (i + 1) P (upd A (nI i).toNatClampNeg x) (upd B (nI i).toNatClampNeg x) (by omega) (by omega) (bt_aV hA (fun _ => rfl))
          exact ⟨P', A', B', hA', fun post hp => br_f h ⟨hn, br_f z ⟨hn, br_f y' ⟨hn, nm_e (nm_r (nI_1 i) (hX post hp))⟩⟩⟩, fun post hp => br_f h ⟨hn, br_f y ⟨hn, nm_e (nm_r (nI_1 i) (hY post hp))⟩⟩⟩
theorem bt_fr (f x : Int32) (b : Nat) (hb : b < 64) (Q C D : Nat → Int32) : ∀ (d i : Nat) (P A B : Nat → Int32), b + 1 ≤ i + d → i < 65 → bt_Al P A B → ∃ P' A' B' : Nat → Int32, bt_Al P' A' B' ∧ (∀ post : Int32 → SX → Prop, post 1 (f, P', A', Q, C) → wX_fillRange_13 post (nI b) x f (d + 1) (nI i) P A Q C) ∧ (∀ post : Int32 → SY → Prop, post 1 (f, P', B', Q, D) → wY_fillRange_14 post (nI b) x f (d + 1) (nI i) P B Q D) := by
  intro d
  induction d with
  | zero =>
    intro i P A B hi h65 hA
    have h : nI b < nI i := nI_lt (by omega) (by omega)
    exact ⟨P, A, B, hA, fun _ hp => br_t h hp, fun _ hp => br_t h hp⟩
  | succ d ih =>
    intro i P A B hi h65 hA
    by_cases hc : b < i
    · have h : nI b < nI i := nI_lt hc (by omega)
      exact ⟨P, A, B, hA, fun _ hp => br_t h hp, fun _ hp => br_t h hp⟩
    · have h : ¬ nI b < nI i := nI_nlt (by omega) (by omega)
      have hn : vp_in (nI i) 64 := vp_in_nI (by omega) (by omega)
      by_cases z : P (nI i).toNatClampNeg = 0
      · obtain ⟨P', A', B', hA', hX, hY⟩ := ih (i + 1) (upd P (nI i).toNatClampNeg (vp_nar .boolean 1)) (upd A (nI i).toNatClampNeg x) (upd B (nI i).toNatClampNeg x) (by omega) (by omega) (bt_a3 hA (fun _ => rfl))
        exact ⟨P', A', B', hA', fun post hp => br_f h ⟨hn, br_t z ⟨hn, nm_e ⟨hn, nm_e (nm_r (nI_1 i) (hX post hp))⟩⟩⟩, fun post hp => br_f h ⟨hn, br_t z (And.intro hn (nm_e (And.intro hn (nm_e (nm_r (nI_1 i) (hY post hp))))))⟩⟩
      · have e1 : P (nI i).toNatClampNeg = vp_nar .boolean 1 := by
          rw [bt_n1]
          exact (hA.1 _).resolve_left z
        obtain ⟨P', A', B', hA', hX, hY⟩ := ih (i + 1) P A B (by omega) (by omega) hA
        exact ⟨P', A', B', hA', fun post hp => br_f h ⟨hn, br_f z (nm_r (nI_1 i) (hX post hp))⟩, fun post hp => br_f h ⟨hn, br_f z ⟨hn, And.intro hn (nm_r (bt_same rfl) (And.intro hn (nm_r (bt_same e1) (nm_r (nI_1 i) (hY post hp)))))⟩⟩⟩
end
section
/-! mark, back and changedSince: the loops over 64 keys, both sides in step -/
theorem bt_mk (f : Int32) (s : Nat) (hs : s ≤ 128) (eY : 64 * f = nI s) (P A B : Nat → Int32) (hA : bt_Al P A B) : ∀ (d i : Nat) (Q C D : Nat → Int32), i + d = 64 → bt_Al Q C D → ∃ Q' C' D' : Nat → Int32, bt_Al Q' C' D' ∧ (∀ post : Int32 → SX → Prop, post (f + 1) (f + 1, P, A, Q', C') → wX_mark_21 post (nI s) f (d + 1) (nI i) P A Q C) ∧ (∀ post : Int32 → SY → Prop, post (f + 1) (f + 1, P, B, Q', D') → wY_mark_13 post f (d + 1) (nI i) P B Q D) := by
  intro d
  induction d with
  | zero =>
    intro i Q C D hi hK
    have h : 64 ≤ nI i := nI_le (a := 64) (by omega) (by omega)
    exact ⟨Q, C, D, hK, fun _ hp => br_t h (nm_e hp), fun _ hp => br_t h (nm_e hp)⟩
  | succ d ih =>
    intro i Q C D hi hK
    have h : ¬ 64 ≤ nI i := nI_ge (b := 64) (by omega) (by decide)
    have hn : vp_in (nI i) 64 := vp_in_nI (by omega) (by omega)
    have hq : vp_in (nI s + nI i) 192 := by rw [nI_add]; exact vp_in_nI (by omega) (by omega)
    obtain ⟨Q', C', D', hK', hX, hY⟩ := ih (i + 1) (upd Q (nI s + nI i).toNatClampNeg (vp_nar .boolean (P (nI i).toNatClampNeg))) (upd C (nI s + nI i).toNatClampNeg (A (nI i).toNatClampNeg)) (upd D (nI s + nI i).toNatClampNeg (B (nI i).toNatClampNeg)) (by omega) (bt_a3 hK (hA.2 _))
    refine ⟨Q', C', D', hK', fun post hp => br_f h ⟨hn, hq, nm_e ⟨hn, hq, nm_e (nm_r (nI_1 i) (hX post hp))⟩⟩, fun post hp => br_f h ⟨hn, by rw [eY]; exact hq, ?_⟩⟩
    intro a ea
    rw [eY] at ea
    subst ea
    refine ⟨hn, by rw [eY]; exact hq, ?_⟩
    intro b eb
    rw [eY] at eb
    subst eb
    exact nm_r (nI_1 i) (hY post hp)
theorem bt_bk (f : Int32) (s : Nat) (hs : s ≤ 128) (eY : 64 * f = nI s) (Q C D : Nat → Int32) (hK : bt_Al Q C D) : ∀ (d i : Nat) (P A B : Nat → Int32), i + d = 64 → bt_Al P A B → ∃ P' A' B' : Nat → Int32, bt_Al P' A' B' ∧ (∀ post : Int32 → SX → Prop, post f (f, P', A', Q, C) → wX_back_30 post (nI s) f (d + 1) (nI i) P A Q C) ∧ (∀ post : Int32 → SY → Prop, post f (f, P', B', Q, D) → wY_back_22 post f (d + 1) (nI i) P B Q D) := by
  intro d
  induction d with
  | zero =>
    intro i P A B hi hA
    have h : 64 ≤ nI i := nI_le (a := 64) (by omega) (by omega)
    exact ⟨P, A, B, hA, fun _ hp => br_t h hp, fun _ hp => br_t h hp⟩
  | succ d ih =>
    intro i P A B hi hA
    have h : ¬ 64 ≤ nI i := nI_ge (b := 64) (by omega) (by decide)
    have hn : vp_in (nI i) 64 := vp_in_nI (by omega) (by omega)
    have hq : vp_in (nI s + nI i) 192 := by rw [nI_add]; exact vp_in_nI (by omega) (by omega)
    obtain ⟨P', A', B', hA', hX, hY⟩ := ih (i + 1) (upd P (nI i).toNatClampNeg (vp_nar .boolean (Q (nI s + nI i).toNatClampNeg))) (upd A (nI i).toNatClampNeg (C (nI s + nI i).toNatClampNeg)) (upd B (nI i).toNatClampNeg (D (nI s + nI i).toNatClampNeg)) (by omega) (bt_a3 hA (hK.2 _))
    refine ⟨P', A', B', hA', fun post hp => br_f h ⟨hq, hn, nm_e ⟨hq, hn, nm_e (nm_r (nI_1 i) (hX post hp))⟩⟩, fun post hp => br_f h ⟨by rw [eY]; exact hq, hn, ?_⟩⟩
    intro a ea
    rw [eY] at ea
    subst ea
    refine ⟨by rw [eY]; exact hq, hn, ?_⟩
    intro b eb
    rw [eY] at eb
    subst eb
    exact nm_r (nI_1 i) (hY post hp)
theorem bt_cs (f : Int32) (s : Nat) (hs : s ≤ 128) (eY : 64 * f - 64 = nI s) (P A B Q C D : Nat → Int32) (hA : bt_Al P A B) (hK : bt_Al Q C D) : ∀ (d i : Nat) (c : Int32), i + d = 64 → ∃ r : Int32, (∀ post : Int32 → Prop, post r → wX_changedSince_24 post (nI s) f P A Q C (d + 1) c (nI i)) ∧ (∀ post : Int32 → Prop, post r → wY_changedSince_14 post f P B Q D (d + 1) c (nI i)) := by
  intro d
  induction d with
  | zero =>
    intro i c hi
    have h : 64 ≤ nI i := nI_le (a := 64) (by omega) (by omega)
    exact ⟨c, fun _ hp => br_t h hp, fun _ hp => br_t h hp⟩
  | succ d ih =>
    intro i c hi
    have h : ¬ 64 ≤ nI i := nI_ge (b := 64) (by omega) (by decide)
    have hn : vp_in (nI i) 64 := vp_in_nI (by omega) (by omega)
    have hq : vp_in (nI s + nI i) 192 := by rw [nI_add]; exact vp_in_nI (by omega) (by omega)
    by_cases e : P (nI i).toNatClampNeg = Q (nI s + nI i).toNatClampNeg
    · by_cases z : P (nI i).toNatClampNeg = 0
      · obtain ⟨r, hX, hY⟩ := ih (i + 1) c (by omega)
        refine ⟨r, fun post hp => br_f h (And.intro hn (And.intro hq (br_t e (And.intro hn (br_t z (br_t rfl (nm_r (nI_1 i) (hX post hp)))))))), fun post hp => br_f h ?_⟩
        intro t et
        rw [eY] at et
        subst et
        exact ⟨hn, hq, br_t e ⟨hn, br_t z (br_t rfl (nm_r (nI_1 i) (hY post hp)))⟩⟩
      · have eA : A (nI i).toNatClampNeg = B (nI i).toNatClampNeg := hA.2 _ z
        have eC : C (nI s + nI i).toNatClampNeg = D (nI s + nI i).toNatClampNeg := hK.2 _ (by rw [← e]; exact z)
        by_cases y : A (nI i).toNatClampNeg = C (nI s + nI i).toNatClampNeg
        · have y' : B (nI i).toNatClampNeg = D (nI s + nI i).toNatClampNeg := by rw [← eA, ← eC]; exact y
          obtain ⟨r, hX, hY⟩ := ih (i + 1) c (by omega)
          refine ⟨r, fun post hp => br_f h (And.intro hn (And.intro hq (br_t e (And.intro hn (br_f z (And.intro hn (And.intro hq (br_t y (br_t rfl (nm_r (nI_1 i) (hX post hp))))))))))), fun post hp => br_f h ?_⟩
          intro t et
          rw [eY] at et
          subst et
          exact ⟨hn, hq, br_t e ⟨hn, br_f z ⟨hn, hq, br_t y' (br_t rfl (nm_r (nI_1 i) (hY post hp)))⟩⟩⟩
        · have y' : ¬ B (nI i).toNatClampNeg = D (nI s + nI i).toNatClampNeg := by rw [← eA, ← eC]; exact y
          obtain ⟨r, hX, hY⟩ := ih (i + 1) (c + 1) (by omega)
          refine ⟨r, fun post hp => br_f h (And.intro hn (And.intro hq (br_t e (And.intro hn (br_f z (And.intro hn (And.intro hq (br_f y (br_f bt_10 (nm_e (nm_r (nI_1 i) (hX post hp)))))))))))), fun post hp => br_f h ?_⟩
          intro t et
          rw [eY] at et
          subst et
          exact ⟨hn, hq, br_t e ⟨hn, br_f z ⟨hn, hq, br_f y' (br_f bt_10 (nm_e (nm_r (nI_1 i) (hY post hp))))⟩⟩⟩
    · obtain ⟨r, hX, hY⟩ := ih (i + 1) (c + 1) (by omega)
      refine ⟨r, fun post hp => br_f h (And.intro hn (And.intro hq (br_f e (br_f bt_10 (nm_e (nm_r (nI_1 i) (hX post hp))))))), fun post hp => br_f h ?_⟩
      intro t et
      rw [eY] at et
      subst et
      exact ⟨hn, hq, br_f e (br_f bt_10 (nm_e (nm_r (nI_1 i) (hY post hp))))⟩
end
section
/-! the questions' loops: one answer r that both sides reach, for every post -/
theorem bt_cn (f : Int32) (P A B Q C D : Nat → Int32) (b : Nat) (hb : b < 64) : ∀ (d i : Nat) (c : Int32), b + 1 ≤ i + d → i < 65 → ∃ r : Int32, (∀ post : Int32 → Prop, post r → wX_presentIn_5 post (nI b) f P A Q C (d + 1) c (nI i)) ∧ (∀ post : Int32 → Prop, post r → wY_count_16 post (nI b) f P B Q D (d + 1) c (nI i)) := by
  intro d
  induction d with
  | zero =>
    intro i c hi h65
    have h : nI b < nI i := nI_lt (by omega) (by omega)
    exact ⟨c, fun _ hp => br_t h hp, fun _ hp => br_t h hp⟩
  | succ d ih =>
    intro i c hi h65
    by_cases hc : b < i
    · have h : nI b < nI i := nI_lt hc (by omega)
      exact ⟨c, fun _ hp => br_t h hp, fun _ hp => br_t h hp⟩
    · have h : ¬ nI b < nI i := nI_nlt (by omega) (by omega)
      have hn : vp_in (nI i) 64 := vp_in_nI (by omega) (by omega)
      by_cases z : P (nI i).toNatClampNeg = 0
      · obtain ⟨r, hX, hY⟩ := ih (i + 1) c (by omega) (by omega)
        exact ⟨r, fun post hp => br_f h ⟨hn, br_t z (nm_r (nI_1 i) (hX post hp))⟩, fun post hp => br_f h ⟨hn, br_t z (nm_r (nI_1 i) (hY post hp))⟩⟩
      · obtain ⟨r, hX, hY⟩ := ih (i + 1) (c + 1) (by omega) (by omega)
        exact ⟨r, fun post hp => br_f h ⟨hn, br_f z (nm_e (nm_r (nI_1 i) (hX post hp)))⟩, fun post hp => br_f h ⟨hn, br_f z (nm_e (nm_r (nI_1 i) (hY post hp)))⟩⟩
theorem bt_sm (f : Int32) (P A B Q C D : Nat → Int32) (hA : bt_Al P A B) (b : Nat) (hb : b < 64) : ∀ (d i : Nat) (c : Int32), b + 1 ≤ i + d → i < 65 → ∃ r : Int32, (∀ post : Int32 → Prop, post r → wX_sum_15 post (nI b) f P A Q C (d + 1) c (nI i)) ∧ (∀ post : Int32 → Prop, post r → wY_sum_16 post (nI b) f P B Q D (d + 1) c (nI i)) := by
  intro d
  induction d with
  | zero =>
    intro i c hi h65
    have h : nI b < nI i := nI_lt (by omega) (by omega)
    exact ⟨c, fun _ hp => br_t h hp, fun _ hp => br_t h hp⟩
  | succ d ih =>
    intro i c hi h65
    by_cases hc : b < i
    · have h : nI b < nI i := nI_lt hc (by omega)
      exact ⟨c, fun _ hp => br_t h hp, fun _ hp => br_t h hp⟩
    · have h : ¬ nI b < nI i := nI_nlt (by omega) (by omega)
      have hn : vp_in (nI i) 64 := vp_in_nI (by omega) (by omega)
      by_cases z : P (nI i).toNatClampNeg = 0
      · obtain ⟨r, hX, hY⟩ := ih (i + 1) c (by omega) (by omega)
        exact ⟨r, fun post hp => br_f h ⟨hn, br_t z (nm_r (nI_1 i) (hX post hp))⟩, fun post hp => br_f h ⟨hn, br_t z (nm_r (nI_1 i) (hY post hp))⟩⟩
      · have e : B (nI i).toNatClampNeg = A (nI i).toNatClampNeg := (hA.2 _ z).symm
        obtain ⟨r, hX, hY⟩ := ih (i + 1) (c + A (nI i).toNatClampNeg) (by omega) (by omega)
        exact ⟨r, fun post hp => br_f h ⟨hn, br_f z ⟨hn, nm_e (nm_r (nI_1 i) (hX post hp))⟩⟩, fun post hp => br_f h ⟨hn, br_f z ⟨hn, nm_r (congrArg (fun t => c + t) e) (nm_r (nI_1 i) (hY post hp))⟩⟩⟩
theorem bt_gr (f : Int32) (P A B Q C D : Nat → Int32) (hA : bt_Al P A B) (b : Nat) (hb : b < 64) : ∀ (d i : Nat) (c : Int32), b + 1 ≤ i + d → i < 65 → ∃ r : Int32, (∀ post : Int32 → Prop, post r → wX_greatest_17 post (nI b) f P A Q C (d + 1) c (nI i)) ∧ (∀ post : Int32 → Prop, post r → wY_greatest_17 post (nI b) f P B Q D (d + 1) c (nI i)) := by
  intro d
  induction d with
  | zero =>
    intro i c hi h65
    have h : nI b < nI i := nI_lt (by omega) (by omega)
    exact ⟨c, fun _ hp => br_t h hp, fun _ hp => br_t h hp⟩
  | succ d ih =>
    intro i c hi h65
    by_cases hc : b < i
    · have h : nI b < nI i := nI_lt hc (by omega)
      exact ⟨c, fun _ hp => br_t h hp, fun _ hp => br_t h hp⟩
    · have h : ¬ nI b < nI i := nI_nlt (by omega) (by omega)
      have hn : vp_in (nI i) 64 := vp_in_nI (by omega) (by omega)
      by_cases z : P (nI i).toNatClampNeg = 0
      · obtain ⟨r, hX, hY⟩ := ih (i + 1) c (by omega) (by omega)
        exact ⟨r, fun post hp => br_f h ⟨hn, br_t z (nm_r (nI_1 i) (hX post hp))⟩, fun post hp => br_f h ⟨hn, br_t z (nm_r (nI_1 i) (hY post hp))⟩⟩
      · have e : B (nI i).toNatClampNeg = A (nI i).toNatClampNeg := (hA.2 _ z).symm
        by_cases y : A (nI i).toNatClampNeg ≤ c
        · have y' : B (nI i).toNatClampNeg ≤ c := by rw [e]; exact y
          obtain ⟨r, hX, hY⟩ := ih (i + 1) c (by omega) (by omega)
          exact ⟨r, fun post hp => br_f h ⟨hn, br_f z ⟨hn, br_t y (nm_r (nI_1 i) (hX post hp))⟩⟩, fun post hp => br_f h ⟨hn, br_f z ⟨hn, br_t y' (nm_r (nI_1 i) (hY post hp))⟩⟩⟩
        · have y' : ¬ B (nI i).toNatClampNeg ≤ c := by rw [e]; exact y
          obtain ⟨r, hX, hY⟩ := ih (i + 1) (A (nI i).toNatClampNeg) (by omega) (by omega)
          exact ⟨r, fun post hp => br_f h ⟨hn, br_f z ⟨hn, br_f y ⟨hn, nm_e (nm_r (nI_1 i) (hX post hp))⟩⟩⟩, fun post hp => br_f h ⟨hn, br_f z ⟨hn, br_f y' ⟨hn, nm_r e (nm_r (nI_1 i) (hY post hp))⟩⟩⟩⟩
theorem bt_nx (f x : Int32) (P A B Q C D : Nat → Int32) : ∀ d i : Nat, i + d = 64 → ∃ r : Int32, (∀ post : Int32 → Prop, post r → wX_next_2 post x f P A Q C (d + 1) (nI i)) ∧ (∀ post : Int32 → Prop, post r → wY_next_2 post x f P B Q D (d + 1) (nI i)) := by
  intro d
  induction d with
  | zero =>
    intro i hi
    have h : 64 ≤ nI i := nI_le (a := 64) (by omega) (by omega)
    exact ⟨-2, fun _ hp => br_t h hp, fun _ hp => br_t h hp⟩
  | succ d ih =>
    intro i hi
    have h : ¬ 64 ≤ nI i := nI_ge (b := 64) (by omega) (by decide)
    have hn : vp_in (nI i) 64 := vp_in_nI (by omega) (by omega)
    obtain ⟨r, hX, hY⟩ := ih (i + 1) (by omega)
    by_cases y : nI i < x
    · exact ⟨r, fun post hp => br_f h (br_t y (nm_r (nI_1 i) (hX post hp))), fun post hp => br_f h (br_t y (nm_r (nI_1 i) (hY post hp)))⟩
    · by_cases z : P (nI i).toNatClampNeg = 0
      · exact ⟨r, fun post hp => br_f h (br_f y ⟨hn, br_t z (nm_r (nI_1 i) (hX post hp))⟩), fun post hp => br_f h (br_f y ⟨hn, br_t z (nm_r (nI_1 i) (hY post hp))⟩)⟩
      · exact ⟨nI i, fun post hp => br_f h (br_f y ⟨hn, br_f z hp⟩), fun post hp => br_f h (br_f y ⟨hn, br_f z hp⟩)⟩
theorem bt_pv (f x : Int32) (P A B Q C D : Nat → Int32) : ∀ n : Nat, n ≤ 64 → ∃ r : Int32, (∀ post : Int32 → Prop, post r → wX_previous_3 post x f P A Q C (n + 1) (nI n + (-1))) ∧ (∀ post : Int32 → Prop, post r → wY_previous_3 post x f P B Q D (n + 1) (nI n + (-1))) := by
  intro n
  induction n with
  | zero =>
    intro _
    have h : nI 0 + (-1) < 0 := by decide +kernel
    exact ⟨-2, fun _ hp => br_t h hp, fun _ hp => br_t h hp⟩
  | succ n ih =>
    intro hi
    rw [pk_m1]
    have h : ¬ nI n < 0 := nI_pos (by omega)
    have hn : vp_in (nI n) 64 := vp_in_nI (by omega) (by omega)
    obtain ⟨r, hX, hY⟩ := ih (by omega)
    by_cases y : x < nI n
    · exact ⟨r, fun post hp => br_f h (br_t y (nm_e (hX post hp))), fun post hp => br_f h (br_t y (nm_e (hY post hp)))⟩
    · by_cases z : P (nI n).toNatClampNeg = 0
      · exact ⟨r, fun post hp => br_f h (br_f y ⟨hn, br_t z (nm_e (hX post hp))⟩), fun post hp => br_f h (br_f y ⟨hn, br_t z (nm_e (hY post hp))⟩)⟩
      · exact ⟨nI n, fun post hp => br_f h (br_f y ⟨hn, br_f z hp⟩), fun post hp => br_f h (br_f y ⟨hn, br_f z hp⟩)⟩
theorem bt_d0 (x c : Int32) (h : ¬ c = x) : ¬ x - c = 0 := fun z => h (by grind)
theorem bt_d1 (x c : Int32) : x - c + (-1) = x - (c + 1) := by grind
theorem bt_ka (f x : Int32) (P A B Q C D : Nat → Int32) : ∀ (d i : Nat) (c : Int32), i + d = 64 → ∃ r : Int32, (∀ post : Int32 → Prop, post r → wX_keyAt_4 post x f P A Q C (d + 1) c (nI i)) ∧ (∀ post : Int32 → Prop, post r → wY_keyAt_4 post f P B Q D (d + 1) (x - c) (nI i)) := by
  intro d
  induction d with
  | zero =>
    intro i c hi
    have h : 64 ≤ nI i := nI_le (a := 64) (by omega) (by omega)
    exact ⟨-2, fun _ hp => br_t h hp, fun _ hp => br_t h hp⟩
  | succ d ih =>
    intro i c hi
    have h : ¬ 64 ≤ nI i := nI_ge (b := 64) (by omega) (by decide)
    have hn : vp_in (nI i) 64 := vp_in_nI (by omega) (by omega)
    by_cases z : P (nI i).toNatClampNeg = 0
    · obtain ⟨r, hX, hY⟩ := ih (i + 1) c (by omega)
      exact ⟨r, fun post hp => br_f h ⟨hn, br_t z (nm_r (nI_1 i) (hX post hp))⟩, fun post hp => br_f h ⟨hn, br_t z (nm_r (nI_1 i) (hY post hp))⟩⟩
    · by_cases y : c = x
      · have y' : x - c = 0 := by rw [y]; exact Int32.sub_self x
        exact ⟨nI i, fun post hp => br_f h ⟨hn, br_f z (br_t y hp)⟩, fun post hp => br_f h ⟨hn, br_f z (br_t y' hp)⟩⟩
      · obtain ⟨r, hX, hY⟩ := ih (i + 1) (c + 1) (by omega)
        exact ⟨r, fun post hp => br_f h ⟨hn, br_f z (br_f y (nm_e (nm_r (nI_1 i) (hX post hp))))⟩, fun post hp => br_f h ⟨hn, br_f z (br_f (bt_d0 x c y) (nm_r (bt_d1 x c) (nm_r (nI_1 i) (hY post hp))))⟩⟩
end
section
/-! the owed statements -/
theorem i_vc_put {k : Nat} {u : SX} {v : SY} (I : i_Rel k u v) (hk : k + 4 ≤ 2048) (v1 : Int32) (v2 : Int32) : wpX_put (fun r u' => wpY_put (fun r' v' => r' = r ∧ i_Rel (k + 4) u' v') v v1 v2) u v1 v2 := by
  obtain ⟨m, P, A, B, Q, C, D, hm, rfl, rfl, hA, hK⟩ := I
  unfold wpX_put wpY_put
  dsimp only
  rcases bt_key v1 with ⟨hX, hY⟩ | ⟨hi, hX, hY⟩
  · exact hX _ (br_t rfl (hY _ _ (br_t rfl ⟨rfl, bt_rel hm hA hK⟩)))
  · exact hX _ (br_f bt_10 ⟨hi, nm_e ⟨hi, nm_e (hY _ _ (br_f bt_10 ⟨hi, nm_e ⟨hi, nm_e ⟨rfl, bt_rel hm (bt_a3 hA (fun _ => rfl)) hK⟩⟩⟩))⟩⟩)
theorem i_vc_remove {k : Nat} {u : SX} {v : SY} (I : i_Rel k u v) (hk : k + 4 ≤ 2048) (v1 : Int32) : wpX_remove (fun r u' => wpY_remove (fun r' v' => r' = r ∧ i_Rel (k + 4) u' v') v v1) u v1 := by
  obtain ⟨m, P, A, B, Q, C, D, hm, rfl, rfl, hA, hK⟩ := I
  unfold wpX_remove wpY_remove
  dsimp only
  rcases bt_key v1 with ⟨hX, hY⟩ | ⟨hi, hX, hY⟩
  · exact hX _ (br_t rfl (hY _ _ (br_t rfl ⟨rfl, bt_rel hm hA hK⟩)))
  · exact hX _ (br_f bt_10 ⟨hi, nm_e (hY _ _ (br_f bt_10 ⟨hi, nm_e ⟨rfl, bt_rel hm (bt_aP hA (fun z => absurd rfl z)) hK⟩⟩))⟩)
theorem i_vc_add {k : Nat} {u : SX} {v : SY} (I : i_Rel k u v) (hk : k + 4 ≤ 2048) (v1 : Int32) (v2 : Int32) : wpX_add (fun r u' => wpY_add (fun r' v' => r' = r ∧ i_Rel (k + 4) u' v') v v1 v2) u v1 v2 := by
  obtain ⟨m, P, A, B, Q, C, D, hm, rfl, rfl, hA, hK⟩ := I
  unfold wpX_add wpY_add
  dsimp only
  rcases bt_key v1 with ⟨hX, hY⟩ | ⟨hi, hX, hY⟩
  · exact hX _ (br_t rfl (hY _ _ (br_t rfl ⟨rfl, bt_rel hm hA hK⟩)))
  · by_cases z : P v1.toNatClampNeg = 0
    · exact hX _ (br_f bt_10 ⟨hi, br_t z (And.intro hi (nm_e (And.intro hi (nm_e (hY _ _ (br_f bt_10 ⟨hi, br_t z (And.intro hi (nm_e (And.intro hi (nm_e ⟨rfl, bt_rel hm (bt_a3 hA (fun _ => rfl)) hK⟩))))⟩))))))⟩)
    · exact hX _ (br_f bt_10 ⟨hi, br_f z ⟨hi, And.intro hi (nm_e (And.intro hi (nm_e (hY _ _ (br_f bt_10 ⟨hi, br_f z ⟨hi, And.intro hi (nm_e (And.intro hi (nm_e ⟨rfl, bt_rel hm (bt_a3 hA (fun _ => congrArg (fun t => t + v2) (hA.2 _ z))) hK⟩)))⟩⟩)))))⟩⟩)
theorem i_vc_removeRange {k : Nat} {u : SX} {v : SY} (I : i_Rel k u v) (hk : k + 4 ≤ 2048) (v1 : Int32) (v2 : Int32) : wpX_removeRange (fun r u' => wpY_removeRange (fun r' v' => r' = r ∧ i_Rel (k + 4) u' v') v v1 v2) u v1 v2 := by
  obtain ⟨m, P, A, B, Q, C, D, hm, rfl, rfl, hA, hK⟩ := I
  unfold wpX_removeRange wpY_removeRange
  dsimp only
  rcases bt_keys v1 v2 with ⟨hX, hY⟩ | ⟨i, j, hi, hj, rfl, rfl, hX, hY⟩
  · exact hX _ (br_t rfl (hY _ _ (br_t rfl ⟨rfl, bt_rel hm hA hK⟩)))
  · obtain ⟨P', A', B', hA', h1, h2⟩ := bt_rr (nI m) j hj Q C D 64 i P A B (by omega) (by omega) hA
    exact hX _ (br_f bt_10 ⟨_, h1 _ (hY _ _ (br_f bt_10 ⟨_, h2 _ ⟨rfl, bt_rel hm hA' hK⟩⟩))⟩)
theorem i_vc_addRange {k : Nat} {u : SX} {v : SY} (I : i_Rel k u v) (hk : k + 4 ≤ 2048) (v1 : Int32) (v2 : Int32) (v3 : Int32) : wpX_addRange (fun r u' => wpY_addRange (fun r' v' => r' = r ∧ i_Rel (k + 4) u' v') v v1 v2 v3) u v1 v2 v3 := by
  obtain ⟨m, P, A, B, Q, C, D, hm, rfl, rfl, hA, hK⟩ := I
  unfold wpX_addRange wpY_addRange
  dsimp only
  rcases bt_keys v1 v2 with ⟨hX, hY⟩ | ⟨i, j, hi, hj, rfl, rfl, hX, hY⟩
  · exact hX _ (br_t rfl (hY _ _ (br_t rfl ⟨rfl, bt_rel hm hA hK⟩)))
  · obtain ⟨P', A', B', hA', h1, h2⟩ := bt_ar (nI m) v3 j hj Q C D 64 i P A B (by omega) (by omega) hA
    exact hX _ (br_f bt_10 ⟨_, h1 _ (hY _ _ (br_f bt_10 ⟨_, h2 _ ⟨rfl, bt_rel hm hA' hK⟩⟩))⟩)
theorem i_vc_raiseRange {k : Nat} {u : SX} {v : SY} (I : i_Rel k u v) (hk : k + 4 ≤ 2048) (v1 : Int32) (v2 : Int32) (v3 : Int32) : wpX_raiseRange (fun r u' => wpY_raiseRange (fun r' v' => r' = r ∧ i_Rel (k + 4) u' v') v v1 v2 v3) u v1 v2 v3 := by
  obtain ⟨m, P, A, B, Q, C, D, hm, rfl, rfl, hA, hK⟩ := I
  unfold wpX_raiseRange wpY_raiseRange
  dsimp only
  rcases bt_keys v1 v2 with ⟨hX, hY⟩ | ⟨i, j, hi, hj, rfl, rfl, hX, hY⟩
  · exact hX _ (br_t rfl (hY _ _ (br_t rfl ⟨rfl, bt_rel hm hA hK⟩)))
  · obtain ⟨P', A', B', hA', h1, h2⟩ := bt_ra (nI m) v3 j hj Q C D 64 i P A B (by omega) (by omega) hA
    exact hX _ (br_f bt_10 ⟨_, h1 _ (hY _ _ (br_f bt_10 ⟨_, h2 _ ⟨rfl, bt_rel hm hA' hK⟩⟩))⟩)
theorem i_vc_fillRange {k : Nat} {u : SX} {v : SY} (I : i_Rel k u v) (hk : k + 4 ≤ 2048) (v1 : Int32) (v2 : Int32) (v3 : Int32) : wpX_fillRange (fun r u' => wpY_fillRange (fun r' v' => r' = r ∧ i_Rel (k + 4) u' v') v v1 v2 v3) u v1 v2 v3 := by
  obtain ⟨m, P, A, B, Q, C, D, hm, rfl, rfl, hA, hK⟩ := I
  unfold wpX_fillRange wpY_fillRange
  dsimp only
  rcases bt_keys v1 v2 with ⟨hX, hY⟩ | ⟨i, j, hi, hj, rfl, rfl, hX, hY⟩
  · exact hX _ (br_t rfl (hY _ _ (br_t rfl ⟨rfl, bt_rel hm hA hK⟩)))
  · obtain ⟨P', A', B', hA', h1, h2⟩ := bt_fr (nI m) v3 j hj Q C D 64 i P A B (by omega) (by omega) hA
    exact hX _ (br_f bt_10 ⟨_, h1 _ (hY _ _ (br_f bt_10 ⟨_, h2 _ ⟨rfl, bt_rel hm hA' hK⟩⟩))⟩)
theorem i_vc_mark {k : Nat} {u : SX} {v : SY} (I : i_Rel k u v) (hk : k + 4 ≤ 2048) : wpX_mark (fun r u' => wpY_mark (fun r' v' => r' = r ∧ i_Rel (k + 4) u' v') v) u := by
  obtain ⟨m, P, A, B, Q, C, D, hm, rfl, rfl, hA, hK⟩ := I
  unfold wpX_mark wpY_mark
  dsimp only
  by_cases h : m < 3
  · have eX : nI m * 64 = nI (m * 64) := pk_mul m 64
    have eY : 64 * nI m = nI (m * 64) := by rw [Int32.mul_comm]; exact eX
    have hx : nI m < 3 := nI_lt (b := 3) h (by decide)
    have hy : ¬ nI m = 3 := fun z => by
      have := (nI_eq (a := m) (b := 3) (by omega) (by decide)).mp z
      omega
    obtain ⟨Q', C', D', hK', h1, h2⟩ := bt_mk (nI m) (m * 64) (by omega) eY P A B hA 64 0 Q C D (by omega) hK
    refine br_t hx (nm_r eX (Exists.intro _ (h1 _ (br_f hy (Exists.intro _ (h2 _ ⟨rfl, ?_⟩))))))
    rw [nI_1]
    exact bt_rel (by omega) hA hK'
  · have e : m = 3 := by omega
    subst e
    exact br_f (by decide +kernel) (br_t (by decide +kernel) ⟨rfl, bt_rel hm hA hK⟩)
theorem i_vc_back {k : Nat} {u : SX} {v : SY} (I : i_Rel k u v) (hk : k + 4 ≤ 2048) : wpX_back (fun r u' => wpY_back (fun r' v' => r' = r ∧ i_Rel (k + 4) u' v') v) u := by
  obtain ⟨m, P, A, B, Q, C, D, hm, rfl, rfl, hA, hK⟩ := I
  unfold wpX_back wpY_back
  dsimp only
  cases m with
  | zero => exact br_f (by decide +kernel) (br_t (by decide +kernel) ⟨rfl, bt_rel hm hA hK⟩)
  | succ m =>
    have eX : nI m * 64 = nI (m * 64) := pk_mul m 64
    have eY : 64 * nI m = nI (m * 64) := by rw [Int32.mul_comm]; exact eX
    have hx : 0 < nI (m + 1) := nI_lt (a := 0) (by omega) (by omega)
    have hy : ¬ nI (m + 1) = 0 := nI_ne0 (by omega) (by omega)
    obtain ⟨P', A', B', hA', h1, h2⟩ := bt_bk (nI m) (m * 64) (by omega) eY Q C D hK 64 0 P A B (by omega) hA
    exact br_t hx (nm_r (nI_pred m) (nm_r eX (Exists.intro _ (h1 _ (br_f hy (nm_r (nI_pred m) (Exists.intro _ (h2 _ ⟨rfl, bt_rel (by omega) hA' hK⟩))))))))
theorem i_vc_has {k : Nat} {u : SX} {v : SY} (I : i_Rel k u v) (hk : k + 4 ≤ 2048) (v1 : Int32) : wpX_has (fun r => wpY_has (fun r' => r' = r ∧ i_Rel (k + 4) u v) v v1) u v1 := by
  obtain ⟨m, P, A, B, Q, C, D, hm, rfl, rfl, hA, hK⟩ := I
  unfold wpX_has wpY_has
  dsimp only
  rcases bt_key v1 with ⟨hX, hY⟩ | ⟨hi, hX, hY⟩
  · exact hX _ (br_t rfl (hY _ _ (br_t rfl ⟨rfl, bt_rel hm hA hK⟩)))
  · by_cases z : P v1.toNatClampNeg = 0
    · exact hX _ (br_f bt_10 ⟨hi, br_t z (hY _ _ (br_f bt_10 ⟨hi, br_t z ⟨rfl, bt_rel hm hA hK⟩⟩))⟩)
    · exact hX _ (br_f bt_10 ⟨hi, br_f z (hY _ _ (br_f bt_10 ⟨hi, br_f z ⟨rfl, bt_rel hm hA hK⟩⟩))⟩)
theorem i_vc_get {k : Nat} {u : SX} {v : SY} (I : i_Rel k u v) (hk : k + 4 ≤ 2048) (v1 : Int32) : wpX_get (fun r => wpY_get (fun r' => r' = r ∧ i_Rel (k + 4) u v) v v1) u v1 := by
  obtain ⟨m, P, A, B, Q, C, D, hm, rfl, rfl, hA, hK⟩ := I
  unfold wpX_get wpY_get
  dsimp only
  rcases bt_key v1 with ⟨hX, hY⟩ | ⟨hi, hX, hY⟩
  · exact hX _ (br_t rfl (hY _ _ (br_t rfl ⟨rfl, bt_rel hm hA hK⟩)))
  · by_cases z : P v1.toNatClampNeg = 0
    · exact hX _ (br_f bt_10 ⟨hi, br_t z (hY _ _ (br_f bt_10 ⟨hi, br_t z ⟨rfl, bt_rel hm hA hK⟩⟩))⟩)
    · exact hX _ (br_f bt_10 ⟨hi, br_f z ⟨hi, hY _ _ (br_f bt_10 ⟨hi, br_f z ⟨hi, (hA.2 _ z).symm, bt_rel hm hA hK⟩⟩)⟩⟩)
theorem i_vc_size {k : Nat} {u : SX} {v : SY} (I : i_Rel k u v) (hk : k + 4 ≤ 2048) : wpX_size (fun r => wpY_size (fun r' => r' = r ∧ i_Rel (k + 4) u v) v) u := by
  obtain ⟨m, P, A, B, Q, C, D, hm, rfl, rfl, hA, hK⟩ := I
  obtain ⟨r, h1, h2⟩ := bt_cn (nI m) P A B Q C D 63 (by decide) 64 0 0 (by omega) (by omega)
  unfold wpX_size wpY_size
  dsimp only
  refine Exists.intro _ (h1 _ ?_)
  unfold wpY_count
  dsimp only
  exact bt_pY (x := 0) (y := 63) (by decide +kernel) (by decide +kernel) (by decide +kernel) (by decide +kernel) _ _ (br_f bt_10 (Exists.intro _ (h2 _ ⟨rfl, bt_rel hm hA hK⟩)))
theorem i_vc_next {k : Nat} {u : SX} {v : SY} (I : i_Rel k u v) (hk : k + 4 ≤ 2048) (v1 : Int32) : wpX_next (fun r => wpY_next (fun r' => r' = r ∧ i_Rel (k + 4) u v) v v1) u v1 := by
  obtain ⟨m, P, A, B, Q, C, D, hm, rfl, rfl, hA, hK⟩ := I
  unfold wpX_next wpY_next
  dsimp only
  obtain ⟨r, h1, h2⟩ := bt_nx (nI m) v1 P A B Q C D 64 0 (by omega)
  exact Exists.intro _ (h1 _ (Exists.intro _ (h2 _ ⟨rfl, bt_rel hm hA hK⟩)))
theorem i_vc_previous {k : Nat} {u : SX} {v : SY} (I : i_Rel k u v) (hk : k + 4 ≤ 2048) (v1 : Int32) : wpX_previous (fun r => wpY_previous (fun r' => r' = r ∧ i_Rel (k + 4) u v) v v1) u v1 := by
  obtain ⟨m, P, A, B, Q, C, D, hm, rfl, rfl, hA, hK⟩ := I
  unfold wpX_previous wpY_previous
  dsimp only
  obtain ⟨r, h1, h2⟩ := bt_pv (nI m) v1 P A B Q C D 64 (by omega)
  rw [← bt_63] at h1 h2
  exact Exists.intro _ (h1 _ (Exists.intro _ (h2 _ ⟨rfl, bt_rel hm hA hK⟩)))
theorem i_vc_keyAt {k : Nat} {u : SX} {v : SY} (I : i_Rel k u v) (hk : k + 4 ≤ 2048) (v1 : Int32) : wpX_keyAt (fun r => wpY_keyAt (fun r' => r' = r ∧ i_Rel (k + 4) u v) v v1) u v1 := by
  obtain ⟨m, P, A, B, Q, C, D, hm, rfl, rfl, hA, hK⟩ := I
  unfold wpX_keyAt wpY_keyAt
  dsimp only
  obtain ⟨r, h1, h2⟩ := bt_ka (nI m) v1 P A B Q C D 64 0 0 (by omega)
  rw [Int32.sub_zero] at h2
  exact Exists.intro _ (h1 _ (Exists.intro _ (h2 _ ⟨rfl, bt_rel hm hA hK⟩)))
theorem i_vc_count {k : Nat} {u : SX} {v : SY} (I : i_Rel k u v) (hk : k + 4 ≤ 2048) (v1 : Int32) (v2 : Int32) : wpX_count (fun r => wpY_count (fun r' => r' = r ∧ i_Rel (k + 4) u v) v v1 v2) u v1 v2 := by
  obtain ⟨m, P, A, B, Q, C, D, hm, rfl, rfl, hA, hK⟩ := I
  unfold wpX_count wpY_count
  dsimp only
  rcases bt_keys v1 v2 with ⟨hX, hY⟩ | ⟨i, j, hi, hj, rfl, rfl, hX, hY⟩
  · exact hX _ (br_t rfl (hY _ _ (br_t rfl ⟨rfl, bt_rel hm hA hK⟩)))
  · obtain ⟨r, h1, h2⟩ := bt_cn (nI m) P A B Q C D j hj 64 i 0 (by omega) (by omega)
    exact hX _ (br_f bt_10 (Exists.intro _ (h1 _ (hY _ _ (br_f bt_10 (Exists.intro _ (h2 _ ⟨rfl, bt_rel hm hA hK⟩)))))))
theorem i_vc_sum {k : Nat} {u : SX} {v : SY} (I : i_Rel k u v) (hk : k + 4 ≤ 2048) (v1 : Int32) (v2 : Int32) : wpX_sum (fun r => wpY_sum (fun r' => r' = r ∧ i_Rel (k + 4) u v) v v1 v2) u v1 v2 := by
  obtain ⟨m, P, A, B, Q, C, D, hm, rfl, rfl, hA, hK⟩ := I
  unfold wpX_sum wpY_sum
  dsimp only
  rcases bt_keys v1 v2 with ⟨hX, hY⟩ | ⟨i, j, hi, hj, rfl, rfl, hX, hY⟩
  · exact hX _ (br_t rfl (hY _ _ (br_t rfl ⟨rfl, bt_rel hm hA hK⟩)))
  · obtain ⟨r, h1, h2⟩ := bt_sm (nI m) P A B Q C D hA j hj 64 i 0 (by omega) (by omega)
    exact hX _ (br_f bt_10 (Exists.intro _ (h1 _ (hY _ _ (br_f bt_10 (Exists.intro _ (h2 _ ⟨rfl, bt_rel hm hA hK⟩)))))))
theorem i_vc_greatest {k : Nat} {u : SX} {v : SY} (I : i_Rel k u v) (hk : k + 4 ≤ 2048) (v1 : Int32) (v2 : Int32) : wpX_greatest (fun r => wpY_greatest (fun r' => r' = r ∧ i_Rel (k + 4) u v) v v1 v2) u v1 v2 := by
  obtain ⟨m, P, A, B, Q, C, D, hm, rfl, rfl, hA, hK⟩ := I
  unfold wpX_greatest wpY_greatest
  dsimp only
  rcases bt_keys v1 v2 with ⟨hX, hY⟩ | ⟨i, j, hi, hj, rfl, rfl, hX, hY⟩
  · exact hX _ (br_t rfl (hY _ _ (br_t rfl ⟨rfl, bt_rel hm hA hK⟩)))
  · obtain ⟨r, h1, h2⟩ := bt_gr (nI m) P A B Q C D hA j hj 64 i (-2147483648) (by omega) (by omega)
    exact hX _ (br_f bt_10 (Exists.intro _ (h1 _ (hY _ _ (br_f bt_10 (Exists.intro _ (h2 _ ⟨rfl, bt_rel hm hA hK⟩)))))))
theorem i_vc_changedSince {k : Nat} {u : SX} {v : SY} (I : i_Rel k u v) (hk : k + 4 ≤ 2048) : wpX_changedSince (fun r => wpY_changedSince (fun r' => r' = r ∧ i_Rel (k + 4) u v) v) u := by
  obtain ⟨m, P, A, B, Q, C, D, hm, rfl, rfl, hA, hK⟩ := I
  unfold wpX_changedSince wpY_changedSince
  dsimp only
  cases m with
  | zero => exact br_f (by decide +kernel) (br_t (by decide +kernel) ⟨rfl, bt_rel hm hA hK⟩)
  | succ m =>
    have eX : (nI (m + 1) - 1) * 64 = nI (m * 64) := by rw [nI_pred]; exact pk_mul m 64
    have eY : 64 * nI (m + 1) - 64 = nI (m * 64) := by
      have e1 : 64 * nI (m + 1) = nI (64 * (m + 1)) := pk_mul 64 (m + 1)
      have e2 : nI (64 * (m + 1)) - 64 = nI (64 * (m + 1) - 64) := pk_sub (a := 64 * (m + 1)) (b := 64) (by omega)
      rw [e1, e2]
      exact congrArg nI (by omega)
    have hx : 0 < nI (m + 1) := nI_lt (a := 0) (by omega) (by omega)
    have hy : ¬ nI (m + 1) = 0 := nI_ne0 (by omega) (by omega)
    obtain ⟨r, h1, h2⟩ := bt_cs (nI (m + 1)) (m * 64) (by omega) eY P A B Q C D hA hK 64 0 0 (by omega)
    exact br_t hx (nm_r eX (Exists.intro _ (h1 _ (br_f hy (Exists.intro _ (h2 _ ⟨rfl, bt_rel hm hA hK⟩))))))
end
