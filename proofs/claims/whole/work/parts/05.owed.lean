/-! the owed statements -/
theorem i_vc_put {k : Nat} {u : SX} {v : SY} (I : i_Rel k u v) (hk : k + 4 ≤ 2048) (v1 : Int32) (v2 : Int32) : wpX_put (fun r u' => wpY_put (fun r' v' => r' = r ∧ i_Rel (k + 4) u' v') v v1 v2) u v1 v2 := by
  obtain ⟨m, P, A, B, Q, C, D, hm, rfl, rfl, hA, hK⟩ := I
  unfold wpX_put wpY_put
  dsimp only
  rcases bt_key v1 with ⟨hX, hY⟩ | ⟨hi, hX, hY⟩
  · exact hX _ (br_t rfl (hY _ _ (br_t rfl ⟨rfl, bt_rel hm hA hK⟩)))
  · exact hX _ (br_f bt_10 ⟨hi, nm_e ⟨hi, nm_e (hY _ _ (br_f bt_10 ⟨hi, nm_e ⟨hi, nm_e ⟨rfl, bt_rel hm (bt_a3 hA (fun _ => rfl)) hK⟩⟩⟩))⟩⟩)
theorem i_vc_remove {k : Nat} {u : SX} {v : SY} (I : i_Rel k u v) (hk : k + 4 ≤ 2048) (v1 : Int32) : wpX_remove (fun r u' => wpY_remove (fun r' v' => r' = r ∧ i_Rel (k + 4) u' v') v v1) u v1 := by
  obtain ⟨m, P, A, B, Q, C, D, hm, rfl, rfl, hA, hK⟩ := I
  unfold wpX_remove wpY_remove
  dsimp only
  rcases bt_key v1 with ⟨hX, hY⟩ | ⟨hi, hX, hY⟩
  · exact hX _ (br_t rfl (hY _ _ (br_t rfl ⟨rfl, bt_rel hm hA hK⟩)))
  · exact hX _ (br_f bt_10 ⟨hi, nm_e (hY _ _ (br_f bt_10 ⟨hi, nm_e ⟨rfl, bt_rel hm (bt_aP hA (fun z => absurd rfl z)) hK⟩⟩))⟩)
theorem i_vc_add {k : Nat} {u : SX} {v : SY} (I : i_Rel k u v) (hk : k + 4 ≤ 2048) (v1 : Int32) (v2 : Int32) : wpX_add (fun r u' => wpY_add (fun r' v' => r' = r ∧ i_Rel (k + 4) u' v') v v1 v2) u v1 v2 := by
  obtain ⟨m, P, A, B, Q, C, D, hm, rfl, rfl, hA, hK⟩ := I
  unfold wpX_add wpY_add
  dsimp only
  rcases bt_key v1 with ⟨hX, hY⟩ | ⟨hi, hX, hY⟩
  · exact hX _ (br_t rfl (hY _ _ (br_t rfl ⟨rfl, bt_rel hm hA hK⟩)))
  · by_cases z : P v1.toNatClampNeg = 0
    · exact hX _ (br_f bt_10 ⟨hi, br_t z (And.intro hi (nm_e (And.intro hi (nm_e (hY _ _ (br_f bt_10 ⟨hi, br_t z (And.intro hi (nm_e (And.intro hi (nm_e ⟨rfl, bt_rel hm (bt_a3 hA (fun _ => rfl)) hK⟩))))⟩))))))⟩)
    · exact hX _ (br_f bt_10 ⟨hi, br_f z ⟨hi, And.intro hi (nm_e (And.intro hi (nm_e (hY _ _ (br_f bt_10 ⟨hi, br_f z ⟨hi, And.intro hi (nm_e (And.intro hi (nm_e ⟨rfl, bt_rel hm (bt_a3 hA (fun _ => congrArg (fun t => t + v2) (hA.2 _ z))) hK⟩)))⟩⟩)))))⟩⟩)
theorem i_vc_removeRange {k : Nat} {u : SX} {v : SY} (I : i_Rel k u v) (hk : k + 4 ≤ 2048) (v1 : Int32) (v2 : Int32) : wpX_removeRange (fun r u' => wpY_removeRange (fun r' v' => r' = r ∧ i_Rel (k + 4) u' v') v v1 v2) u v1 v2 := by
  obtain ⟨m, P, A, B, Q, C, D, hm, rfl, rfl, hA, hK⟩ := I
  unfold wpX_removeRange wpY_removeRange
  dsimp only
  rcases bt_keys v1 v2 with ⟨hX, hY⟩ | ⟨i, j, hi, hj, rfl, rfl, hX, hY⟩
  · exact hX _ (br_t rfl (hY _ _ (br_t rfl ⟨rfl, bt_rel hm hA hK⟩)))
  · obtain ⟨P', A', B', hA', h1, h2⟩ := bt_rr (nI m) j hj Q C D 64 i P A B (by omega) (by omega) hA
    exact hX _ (br_f bt_10 ⟨_, h1 _ (hY _ _ (br_f bt_10 ⟨_, h2 _ ⟨rfl, bt_rel hm hA' hK⟩⟩))⟩)
theorem i_vc_addRange {k : Nat} {u : SX} {v : SY} (I : i_Rel k u v) (hk : k + 4 ≤ 2048) (v1 : Int32) (v2 : Int32) (v3 : Int32) : wpX_addRange (fun r u' => wpY_addRange (fun r' v' => r' = r ∧ i_Rel (k + 4) u' v') v v1 v2 v3) u v1 v2 v3 := by
  obtain ⟨m, P, A, B, Q, C, D, hm, rfl, rfl, hA, hK⟩ := I
  unfold wpX_addRange wpY_addRange
  dsimp only
  rcases bt_keys v1 v2 with ⟨hX, hY⟩ | ⟨i, j, hi, hj, rfl, rfl, hX, hY⟩
  · exact hX _ (br_t rfl (hY _ _ (br_t rfl ⟨rfl, bt_rel hm hA hK⟩)))
  · obtain ⟨P', A', B', hA', h1, h2⟩ := bt_ar (nI m) v3 j hj Q C D 64 i P A B (by omega) (by omega) hA
    exact hX _ (br_f bt_10 ⟨_, h1 _ (hY _ _ (br_f bt_10 ⟨_, h2 _ ⟨rfl, bt_rel hm hA' hK⟩⟩))⟩)
theorem i_vc_raiseRange {k : Nat} {u : SX} {v : SY} (I : i_Rel k u v) (hk : k + 4 ≤ 2048) (v1 : Int32) (v2 : Int32) (v3 : Int32) : wpX_raiseRange (fun r u' => wpY_raiseRange (fun r' v' => r' = r ∧ i_Rel (k + 4) u' v') v v1 v2 v3) u v1 v2 v3 := by
  obtain ⟨m, P, A, B, Q, C, D, hm, rfl, rfl, hA, hK⟩ := I
  unfold wpX_raiseRange wpY_raiseRange
  dsimp only
  rcases bt_keys v1 v2 with ⟨hX, hY⟩ | ⟨i, j, hi, hj, rfl, rfl, hX, hY⟩
  · exact hX _ (br_t rfl (hY _ _ (br_t rfl ⟨rfl, bt_rel hm hA hK⟩)))
  · obtain ⟨P', A', B', hA', h1, h2⟩ := bt_ra (nI m) v3 j hj Q C D 64 i P A B (by omega) (by omega) hA
    exact hX _ (br_f bt_10 ⟨_, h1 _ (hY _ _ (br_f bt_10 ⟨_, h2 _ ⟨rfl, bt_rel hm hA' hK⟩⟩))⟩)
theorem i_vc_fillRange {k : Nat} {u : SX} {v : SY} (I : i_Rel k u v) (hk : k + 4 ≤ 2048) (v1 : Int32) (v2 : Int32) (v3 : Int32) : wpX_fillRange (fun r u' => wpY_fillRange (fun r' v' => r' = r ∧ i_Rel (k + 4) u' v') v v1 v2 v3) u v1 v2 v3 := by
  obtain ⟨m, P, A, B, Q, C, D, hm, rfl, rfl, hA, hK⟩ := I
  unfold wpX_fillRange wpY_fillRange
  dsimp only
  rcases bt_keys v1 v2 with ⟨hX, hY⟩ | ⟨i, j, hi, hj, rfl, rfl, hX, hY⟩
  · exact hX _ (br_t rfl (hY _ _ (br_t rfl ⟨rfl, bt_rel hm hA hK⟩)))
  · obtain ⟨P', A', B', hA', h1, h2⟩ := bt_fr (nI m) v3 j hj Q C D 64 i P A B (by omega) (by omega) hA
    exact hX _ (br_f bt_10 ⟨_, h1 _ (hY _ _ (br_f bt_10 ⟨_, h2 _ ⟨rfl, bt_rel hm hA' hK⟩⟩))⟩)
theorem i_vc_mark {k : Nat} {u : SX} {v : SY} (I : i_Rel k u v) (hk : k + 4 ≤ 2048) : wpX_mark (fun r u' => wpY_mark (fun r' v' => r' = r ∧ i_Rel (k + 4) u' v') v) u := by
  obtain ⟨m, P, A, B, Q, C, D, hm, rfl, rfl, hA, hK⟩ := I
  unfold wpX_mark wpY_mark
  dsimp only
  by_cases h : m < 3
  · have eX : nI m * 64 = nI (m * 64) := pk_mul m 64
    have eY : 64 * nI m = nI (m * 64) := by rw [Int32.mul_comm]; exact eX
    have hx : nI m < 3 := nI_lt (b := 3) h (by decide)
    have hy : ¬ nI m = 3 := fun z => by
      have := (nI_eq (a := m) (b := 3) (by omega) (by decide)).mp z
      omega
    obtain ⟨Q', C', D', hK', h1, h2⟩ := bt_mk (nI m) (m * 64) (by omega) eY P A B hA 64 0 Q C D (by omega) hK
    refine br_t hx (nm_r eX (Exists.intro _ (h1 _ (br_f hy (Exists.intro _ (h2 _ ⟨rfl, ?_⟩))))))
    rw [nI_1]
    exact bt_rel (by omega) hA hK'
  · have e : m = 3 := by omega
    subst e
    exact br_f (by decide +kernel) (br_t (by decide +kernel) ⟨rfl, bt_rel hm hA hK⟩)
theorem i_vc_back {k : Nat} {u : SX} {v : SY} (I : i_Rel k u v) (hk : k + 4 ≤ 2048) : wpX_back (fun r u' => wpY_back (fun r' v' => r' = r ∧ i_Rel (k + 4) u' v') v) u := by
  obtain ⟨m, P, A, B, Q, C, D, hm, rfl, rfl, hA, hK⟩ := I
  unfold wpX_back wpY_back
  dsimp only
  cases m with
  | zero => exact br_f (by decide +kernel) (br_t (by decide +kernel) ⟨rfl, bt_rel hm hA hK⟩)
  | succ m =>
    have eX : nI m * 64 = nI (m * 64) := pk_mul m 64
    have eY : 64 * nI m = nI (m * 64) := by rw [Int32.mul_comm]; exact eX
    have hx : 0 < nI (m + 1) := nI_lt (a := 0) (by omega) (by omega)
    have hy : ¬ nI (m + 1) = 0 := nI_ne0 (by omega) (by omega)
    obtain ⟨P', A', B', hA', h1, h2⟩ := bt_bk (nI m) (m * 64) (by omega) eY Q C D hK 64 0 P A B (by omega) hA
    exact br_t hx (nm_r (nI_pred m) (nm_r eX (Exists.intro _ (h1 _ (br_f hy (nm_r (nI_pred m) (Exists.intro _ (h2 _ ⟨rfl, bt_rel (by omega) hA' hK⟩))))))))
theorem i_vc_has {k : Nat} {u : SX} {v : SY} (I : i_Rel k u v) (hk : k + 4 ≤ 2048) (v1 : Int32) : wpX_has (fun r => wpY_has (fun r' => r' = r ∧ i_Rel (k + 4) u v) v v1) u v1 := by
  obtain ⟨m, P, A, B, Q, C, D, hm, rfl, rfl, hA, hK⟩ := I
  unfold wpX_has wpY_has
  dsimp only
  rcases bt_key v1 with ⟨hX, hY⟩ | ⟨hi, hX, hY⟩
  · exact hX _ (br_t rfl (hY _ _ (br_t rfl ⟨rfl, bt_rel hm hA hK⟩)))
  · by_cases z : P v1.toNatClampNeg = 0
    · exact hX _ (br_f bt_10 ⟨hi, br_t z (hY _ _ (br_f bt_10 ⟨hi, br_t z ⟨rfl, bt_rel hm hA hK⟩⟩))⟩)
    · exact hX _ (br_f bt_10 ⟨hi, br_f z (hY _ _ (br_f bt_10 ⟨hi, br_f z ⟨rfl, bt_rel hm hA hK⟩⟩))⟩)
theorem i_vc_get {k : Nat} {u : SX} {v : SY} (I : i_Rel k u v) (hk : k + 4 ≤ 2048) (v1 : Int32) : wpX_get (fun r => wpY_get (fun r' => r' = r ∧ i_Rel (k + 4) u v) v v1) u v1 := by
  obtain ⟨m, P, A, B, Q, C, D, hm, rfl, rfl, hA, hK⟩ := I
  unfold wpX_get wpY_get
  dsimp only
  rcases bt_key v1 with ⟨hX, hY⟩ | ⟨hi, hX, hY⟩
  · exact hX _ (br_t rfl (hY _ _ (br_t rfl ⟨rfl, bt_rel hm hA hK⟩)))
  · by_cases z : P v1.toNatClampNeg = 0
    · exact hX _ (br_f bt_10 ⟨hi, br_t z (hY _ _ (br_f bt_10 ⟨hi, br_t z ⟨rfl, bt_rel hm hA hK⟩⟩))⟩)
    · exact hX _ (br_f bt_10 ⟨hi, br_f z ⟨hi, hY _ _ (br_f bt_10 ⟨hi, br_f z ⟨hi, (hA.2 _ z).symm, bt_rel hm hA hK⟩⟩)⟩⟩)
theorem i_vc_size {k : Nat} {u : SX} {v : SY} (I : i_Rel k u v) (hk : k + 4 ≤ 2048) : wpX_size (fun r => wpY_size (fun r' => r' = r ∧ i_Rel (k + 4) u v) v) u := by
  obtain ⟨m, P, A, B, Q, C, D, hm, rfl, rfl, hA, hK⟩ := I
  obtain ⟨r, h1, h2⟩ := bt_cn (nI m) P A B Q C D 63 (by decide) 64 0 0 (by omega) (by omega)
  unfold wpX_size wpY_size
  dsimp only
  refine Exists.intro _ (h1 _ ?_)
  unfold wpY_count
  dsimp only
  exact bt_pY (x := 0) (y := 63) (by decide +kernel) (by decide +kernel) (by decide +kernel) (by decide +kernel) _ _ (br_f bt_10 (Exists.intro _ (h2 _ ⟨rfl, bt_rel hm hA hK⟩)))
theorem i_vc_next {k : Nat} {u : SX} {v : SY} (I : i_Rel k u v) (hk : k + 4 ≤ 2048) (v1 : Int32) : wpX_next (fun r => wpY_next (fun r' => r' = r ∧ i_Rel (k + 4) u v) v v1) u v1 := by
  obtain ⟨m, P, A, B, Q, C, D, hm, rfl, rfl, hA, hK⟩ := I
  unfold wpX_next wpY_next
  dsimp only
  obtain ⟨r, h1, h2⟩ := bt_nx (nI m) v1 P A B Q C D 64 0 (by omega)
  exact Exists.intro _ (h1 _ (Exists.intro _ (h2 _ ⟨rfl, bt_rel hm hA hK⟩)))
theorem i_vc_previous {k : Nat} {u : SX} {v : SY} (I : i_Rel k u v) (hk : k + 4 ≤ 2048) (v1 : Int32) : wpX_previous (fun r => wpY_previous (fun r' => r' = r ∧ i_Rel (k + 4) u v) v v1) u v1 := by
  obtain ⟨m, P, A, B, Q, C, D, hm, rfl, rfl, hA, hK⟩ := I
  unfold wpX_previous wpY_previous
  dsimp only
  obtain ⟨r, h1, h2⟩ := bt_pv (nI m) v1 P A B Q C D 64 (by omega)
  rw [← bt_63] at h1 h2
  exact Exists.intro _ (h1 _ (Exists.intro _ (h2 _ ⟨rfl, bt_rel hm hA hK⟩)))
theorem i_vc_keyAt {k : Nat} {u : SX} {v : SY} (I : i_Rel k u v) (hk : k + 4 ≤ 2048) (v1 : Int32) : wpX_keyAt (fun r => wpY_keyAt (fun r' => r' = r ∧ i_Rel (k + 4) u v) v v1) u v1 := by
  obtain ⟨m, P, A, B, Q, C, D, hm, rfl, rfl, hA, hK⟩ := I
  unfold wpX_keyAt wpY_keyAt
  dsimp only
  obtain ⟨r, h1, h2⟩ := bt_ka (nI m) v1 P A B Q C D 64 0 0 (by omega)
  rw [Int32.sub_zero] at h2
  exact Exists.intro _ (h1 _ (Exists.intro _ (h2 _ ⟨rfl, bt_rel hm hA hK⟩)))
theorem i_vc_count {k : Nat} {u : SX} {v : SY} (I : i_Rel k u v) (hk : k + 4 ≤ 2048) (v1 : Int32) (v2 : Int32) : wpX_count (fun r => wpY_count (fun r' => r' = r ∧ i_Rel (k + 4) u v) v v1 v2) u v1 v2 := by
  obtain ⟨m, P, A, B, Q, C, D, hm, rfl, rfl, hA, hK⟩ := I
  unfold wpX_count wpY_count
  dsimp only
  rcases bt_keys v1 v2 with ⟨hX, hY⟩ | ⟨i, j, hi, hj, rfl, rfl, hX, hY⟩
  · exact hX _ (br_t rfl (hY _ _ (br_t rfl ⟨rfl, bt_rel hm hA hK⟩)))
  · obtain ⟨r, h1, h2⟩ := bt_cn (nI m) P A B Q C D j hj 64 i 0 (by omega) (by omega)
    exact hX _ (br_f bt_10 (Exists.intro _ (h1 _ (hY _ _ (br_f bt_10 (Exists.intro _ (h2 _ ⟨rfl, bt_rel hm hA hK⟩)))))))
theorem i_vc_sum {k : Nat} {u : SX} {v : SY} (I : i_Rel k u v) (hk : k + 4 ≤ 2048) (v1 : Int32) (v2 : Int32) : wpX_sum (fun r => wpY_sum (fun r' => r' = r ∧ i_Rel (k + 4) u v) v v1 v2) u v1 v2 := by
  obtain ⟨m, P, A, B, Q, C, D, hm, rfl, rfl, hA, hK⟩ := I
  unfold wpX_sum wpY_sum
  dsimp only
  rcases bt_keys v1 v2 with ⟨hX, hY⟩ | ⟨i, j, hi, hj, rfl, rfl, hX, hY⟩
  · exact hX _ (br_t rfl (hY _ _ (br_t rfl ⟨rfl, bt_rel hm hA hK⟩)))
  · obtain ⟨r, h1, h2⟩ := bt_sm (nI m) P A B Q C D hA j hj 64 i 0 (by omega) (by omega)
    exact hX _ (br_f bt_10 (Exists.intro _ (h1 _ (hY _ _ (br_f bt_10 (Exists.intro _ (h2 _ ⟨rfl, bt_rel hm hA hK⟩)))))))
theorem i_vc_greatest {k : Nat} {u : SX} {v : SY} (I : i_Rel k u v) (hk : k + 4 ≤ 2048) (v1 : Int32) (v2 : Int32) : wpX_greatest (fun r => wpY_greatest (fun r' => r' = r ∧ i_Rel (k + 4) u v) v v1 v2) u v1 v2 := by
  obtain ⟨m, P, A, B, Q, C, D, hm, rfl, rfl, hA, hK⟩ := I
  unfold wpX_greatest wpY_greatest
  dsimp only
  rcases bt_keys v1 v2 with ⟨hX, hY⟩ | ⟨i, j, hi, hj, rfl, rfl, hX, hY⟩
  · exact hX _ (br_t rfl (hY _ _ (br_t rfl ⟨rfl, bt_rel hm hA hK⟩)))
  · obtain ⟨r, h1, h2⟩ := bt_gr (nI m) P A B Q C D hA j hj 64 i (-2147483648) (by omega) (by omega)
    exact hX _ (br_f bt_10 (Exists.intro _ (h1 _ (hY _ _ (br_f bt_10 (Exists.intro _ (h2 _ ⟨rfl, bt_rel hm hA hK⟩)))))))
theorem i_vc_changedSince {k : Nat} {u : SX} {v : SY} (I : i_Rel k u v) (hk : k + 4 ≤ 2048) : wpX_changedSince (fun r => wpY_changedSince (fun r' => r' = r ∧ i_Rel (k + 4) u v) v) u := by
  obtain ⟨m, P, A, B, Q, C, D, hm, rfl, rfl, hA, hK⟩ := I
  unfold wpX_changedSince wpY_changedSince
  dsimp only
  cases m with
  | zero => exact br_f (by decide +kernel) (br_t (by decide +kernel) ⟨rfl, bt_rel hm hA hK⟩)
  | succ m =>
    have eX : (nI (m + 1) - 1) * 64 = nI (m * 64) := by rw [nI_pred]; exact pk_mul m 64
    have eY : 64 * nI (m + 1) - 64 = nI (m * 64) := by
      have e1 : 64 * nI (m + 1) = nI (64 * (m + 1)) := pk_mul 64 (m + 1)
      have e2 : nI (64 * (m + 1)) - 64 = nI (64 * (m + 1) - 64) := pk_sub (a := 64 * (m + 1)) (b := 64) (by omega)
      rw [e1, e2]
      exact congrArg nI (by omega)
    have hx : 0 < nI (m + 1) := nI_lt (a := 0) (by omega) (by omega)
    have hy : ¬ nI (m + 1) = 0 := nI_ne0 (by omega) (by omega)
    obtain ⟨r, h1, h2⟩ := bt_cs (nI (m + 1)) (m * 64) (by omega) eY P A B Q C D hA hK 64 0 0 (by omega)
    exact br_t hx (nm_r eX (Exists.intro _ (h1 _ (br_f hy (Exists.intro _ (h2 _ ⟨rfl, bt_rel hm hA hK⟩))))))
