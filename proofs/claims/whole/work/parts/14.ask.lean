/-! the questions, both sides in step -/
variable {rm so : Int32} {n F : Nat} {X Y Z A B C D M : Nat → Int32}
theorem wq_side (hF : F ≤ 24) (x y z : Int32) : ∀ d j, j + d = F → ∀ t : Bool, ∃ r : Int32, (∀ post : Int32 → Prop, post r → wX_side_30 post x y z rm (nI n) (nI F) X Y Z A B C D M (d + 1) (if t = true then 1 else 0) (nI j)) ∧ (∀ post : Int32 → Prop, post r → wY_side_23 post x y z rm (nI n) so (nI F) X Y Z A B C D M (d + 1) (if t = true then 1 else 2) (nI j)) := by
  intro d
  induction d with
  | zero =>
    intro j hj t
    have hl : nI F ≤ nI j := nI_le (by omega) (by omega)
    cases t with
    | true => exact ⟨1, fun post h => br_t hl (br_f (by decide) h), fun post h => br_t hl h⟩
    | false => exact ⟨2, fun post h => br_t hl (br_t rfl h), fun post h => br_t hl h⟩
  | succ d ih =>
    intro j hj t
    have hj' : ¬ nI F ≤ nI j := nI_ge (by omega) (by omega)
    by_cases h1 : A j * x + B j * y + C j * z - D j ≤ 0
    · by_cases h2 : A j * x + B j * y + C j * z - D j = 0
      · obtain ⟨r, hX, hY⟩ := ih (j + 1) (by omega) true
        exact ⟨r, fun post h => br_f hj' (wx_hab (by omega) (br_t h1 (br_t h2 (nm_r (nI_1 _) (hX post h))))), fun post h => br_f hj' (wy_abv (by omega) (br_t h1 (br_t h2 (nm_r (nI_1 _) (hY post h)))))⟩
      · obtain ⟨r, hX, hY⟩ := ih (j + 1) (by omega) t
        exact ⟨r, fun post h => br_f hj' (wx_hab (by omega) (br_t h1 (br_f h2 (nm_r (nI_1 _) (hX post h))))), fun post h => br_f hj' (wy_abv (by omega) (br_t h1 (br_f h2 (nm_r (nI_1 _) (hY post h)))))⟩
    · exact ⟨0, fun post h => br_f hj' (wx_hab (by omega) (br_f h1 h)), fun post h => br_f hj' (wy_abv (by omega) (br_f h1 h))⟩
theorem wq_vis (hF : F ≤ 24) (x y z : Int32) : ∀ d j, j + d = F → ∀ c : Int32, ∃ r : Int32, (∀ post : Int32 → Prop, post r → wX_visible_30 post x y z rm (nI n) (nI F) X Y Z A B C D M (d + 1) c (nI j)) ∧ (∀ post : Int32 → Prop, post r → wY_visible_23 post x y z rm (nI n) so (nI F) X Y Z A B C D M (d + 1) c (nI j)) := by
  intro d
  induction d with
  | zero =>
    intro j hj c
    have hl : nI F ≤ nI j := nI_le (by omega) (by omega)
    exact ⟨c, fun post h => br_t hl h, fun post h => br_t hl h⟩
  | succ d ih =>
    intro j hj c
    have hj' : ¬ nI F ≤ nI j := nI_ge (by omega) (by omega)
    by_cases h1 : A j * x + B j * y + C j * z - D j ≤ 0
    · obtain ⟨r, hX, hY⟩ := ih (j + 1) (by omega) c
      exact ⟨r, fun post h => br_f hj' (wx_hab (by omega) (br_t h1 (nm_r (nI_1 _) (hX post h)))), fun post h => br_f hj' (wy_abv (by omega) (br_t h1 (nm_r (nI_1 _) (hY post h))))⟩
    · obtain ⟨r, hX, hY⟩ := ih (j + 1) (by omega) (c + 1)
      exact ⟨r, fun post h => br_f hj' (wx_hab (by omega) (br_f h1 (nm_e (nm_r (nI_1 _) (hX post h))))), fun post h => br_f hj' (wy_abv (by omega) (br_f h1 (nm_e (nm_r (nI_1 _) (hY post h)))))⟩
theorem wq_crn (hn : n ≤ 14) (hF : F ≤ 24) : ∀ d j, j + d = n → ∀ c : Int32, ∃ r : Int32, (∀ post : Int32 → Prop, post r → wX_corners_14 post rm (nI n) (nI F) X Y Z A B C D M (d + 1) c (nI j)) ∧ (∀ post : Int32 → Prop, post r → wY_corners_14 post rm (nI n) so (nI F) X Y Z A B C D M (d + 1) c (nI j)) := by
  intro d
  induction d with
  | zero =>
    intro j hj c
    have hl : nI n ≤ nI j := nI_le (by omega) (by omega)
    exact ⟨c, fun post h => br_t hl h, fun post h => br_t hl h⟩
  | succ d ih =>
    intro j hj c
    have hj' : ¬ nI n ≤ nI j := nI_ge (by omega) (by omega)
    by_cases h1 : 3 ≤ he_w F (hi_B M) j j
    · obtain ⟨r, hX, hY⟩ := ih (j + 1) (by omega) (c + 1)
      exact ⟨r, fun post h => br_f hj' (wx_cor1 (by omega) hF h1 (br_f (by decide) (nm_e (nm_r (nI_1 _) (hX post h))))), fun post h => br_f hj' (wy_cor1 (by omega) hF h1 (br_f (by decide) (nm_e (nm_r (nI_1 _) (hY post h)))))⟩
    · obtain ⟨r, hX, hY⟩ := ih (j + 1) (by omega) c
      exact ⟨r, fun post h => br_f hj' (wx_cor0 (by omega) hF h1 (br_t rfl (nm_r (nI_1 _) (hX post h)))), fun post h => br_f hj' (wy_cor0 (by omega) hF h1 (br_t rfl (nm_r (nI_1 _) (hY post h))))⟩
theorem wq_edI (hn : n ≤ 14) (hF : F ≤ 24) {a : Nat} (ha : a < n) : ∀ d j, j + d = n → ∀ c : Int32, ∃ r : Int32, (∀ (post : Int32 → Prop) (J : Int32 → Int32 → Prop), J r (nI (a + 1)) → wX_edges_26 post J (nI a) rm (nI n) (nI F) X Y Z A B C D M (d + 1) c (nI j)) ∧ (∀ (post : Int32 → Prop) (J : Int32 → Int32 → Prop), J r (nI (a + 1)) → wY_edges_26 post J (nI a) rm (nI n) so (nI F) X Y Z A B C D M (d + 1) c (nI j)) := by
  intro d
  induction d with
  | zero =>
    intro j hj c
    have hl : nI n ≤ nI j := nI_le (by omega) (by omega)
    exact ⟨c, fun post J h => br_t hl (nm_r (nI_1 _) h), fun post J h => br_t hl (nm_r (nI_1 _) h)⟩
  | succ d ih =>
    intro j hj c
    have hj' : ¬ nI n ≤ nI j := nI_ge (by omega) (by omega)
    by_cases h1 : he_e F (hi_B M) a j = true
    · obtain ⟨r, hX, hY⟩ := ih (j + 1) (by omega) (c + 1)
      exact ⟨r, fun post J h => br_f hj' (wx_edg1 (by omega) (by omega) hF h1 (br_f (by decide) (nm_e (nm_r (nI_1 _) (hX post J h))))), fun post J h => br_f hj' (wy_edg1 (by omega) (by omega) hF h1 (br_f (by decide) (nm_e (nm_r (nI_1 _) (hY post J h)))))⟩
    · obtain ⟨r, hX, hY⟩ := ih (j + 1) (by omega) c
      exact ⟨r, fun post J h => br_f hj' (wx_edg0 (by omega) (by omega) hF h1 (br_t rfl (nm_r (nI_1 _) (hX post J h)))), fun post J h => br_f hj' (wy_edg0 (by omega) (by omega) hF h1 (br_t rfl (nm_r (nI_1 _) (hY post J h))))⟩
theorem wq_edg (hn : n ≤ 14) (hF : F ≤ 24) : ∀ d j, j + d = n → ∀ c : Int32, ∃ r : Int32, (∀ post : Int32 → Prop, post r → wX_edges_14 post rm (nI n) (nI F) X Y Z A B C D M (d + 1) c (nI j)) ∧ (∀ post : Int32 → Prop, post r → wY_edges_14 post rm (nI n) so (nI F) X Y Z A B C D M (d + 1) c (nI j)) := by
  intro d
  induction d with
  | zero =>
    intro j hj c
    have hl : nI n ≤ nI j := nI_le (by omega) (by omega)
    exact ⟨c, fun post h => br_t hl h, fun post h => br_t hl h⟩
  | succ d ih =>
    intro j hj c
    have hj' : ¬ nI n ≤ nI j := nI_ge (by omega) (by omega)
    obtain ⟨c2, gX, gY⟩ := wq_edI (rm := rm) (so := so) (X := X) (Y := Y) (Z := Z) (A := A) (B := B) (C := C) (D := D) (M := M) hn hF (a := j) (by omega) (n - (j + 1)) (j + 1) (by omega) c
    obtain ⟨r, hX, hY⟩ := ih (j + 1) (by omega) c2
    exact ⟨r, fun post h => br_f hj' (nm_r (nI_1 _) ⟨_, gX post _ (hX post h)⟩), fun post h => br_f hj' (nm_r (nI_1 _) ⟨_, gY post _ (hY post h)⟩)⟩
theorem wq_far (hn : n ≤ 14) (hF : F ≤ 24) (x y z : Int32) : ∀ d j, j + d = n → ∀ b m : Int32, ∃ r : Int32, (∀ post : Int32 → Prop, post r → wX_farthest_33 post x y z rm (nI n) (nI F) X Y Z A B C D M (d + 1) b m (nI j)) ∧ (∀ post : Int32 → Prop, post r → wY_farthest_26 post x y z rm (nI n) so (nI F) X Y Z A B C D M (d + 1) b m (nI j)) := by
  intro d
  induction d with
  | zero =>
    intro j hj b m
    have hl : nI n ≤ nI j := nI_le (by omega) (by omega)
    exact ⟨b, fun post h => br_t hl h, fun post h => br_t hl h⟩
  | succ d ih =>
    intro j hj b m
    have hj' : ¬ nI n ≤ nI j := nI_ge (by omega) (by omega)
    have vi : vp_in (nI j) 14 := vp_in_nI (by omega) (by omega)
    by_cases h1 : 3 ≤ he_w F (hi_B M) j j
    · by_cases h2 : b < 0
      · obtain ⟨r, hX, hY⟩ := ih (j + 1) (by omega) (nI j) (X (nI j).toNatClampNeg * x + Y (nI j).toNatClampNeg * y + Z (nI j).toNatClampNeg * z)
        exact ⟨r, fun post h => br_f hj' (wx_cor1 (by omega) hF h1 (br_f (by decide) ⟨vi, vi, vi, nm_e (br_t h2 (nm_r (nI_1 _) (hX post h)))⟩)), fun post h => br_f hj' ⟨vi, vi, vi, nm_e (wy_cor1 (by omega) hF h1 (br_f (by decide) (br_t h2 (nm_r (nI_1 _) (hY post h)))))⟩⟩
      · by_cases h3 : X (nI j).toNatClampNeg * x + Y (nI j).toNatClampNeg * y + Z (nI j).toNatClampNeg * z ≤ m
        · obtain ⟨r, hX, hY⟩ := ih (j + 1) (by omega) b m
          exact ⟨r, fun post h => br_f hj' (wx_cor1 (by omega) hF h1 (br_f (by decide) ⟨vi, vi, vi, nm_e (br_f h2 (br_t h3 (nm_r (nI_1 _) (hX post h))))⟩)), fun post h => br_f hj' ⟨vi, vi, vi, nm_e (wy_cor1 (by omega) hF h1 (br_f (by decide) (br_f h2 (br_t h3 (nm_r (nI_1 _) (hY post h))))))⟩⟩
        · obtain ⟨r, hX, hY⟩ := ih (j + 1) (by omega) (nI j) (X (nI j).toNatClampNeg * x + Y (nI j).toNatClampNeg * y + Z (nI j).toNatClampNeg * z)
          exact ⟨r, fun post h => br_f hj' (wx_cor1 (by omega) hF h1 (br_f (by decide) ⟨vi, vi, vi, nm_e (br_f h2 (br_f h3 (nm_r (nI_1 _) (hX post h))))⟩)), fun post h => br_f hj' ⟨vi, vi, vi, nm_e (wy_cor1 (by omega) hF h1 (br_f (by decide) (br_f h2 (br_f h3 (nm_r (nI_1 _) (hY post h))))))⟩⟩
    · obtain ⟨r, hX, hY⟩ := ih (j + 1) (by omega) b m
      exact ⟨r, fun post h => br_f hj' (wx_cor0 (by omega) hF h1 (br_t rfl (nm_r (nI_1 _) (hX post h)))), fun post h => br_f hj' ⟨vi, vi, vi, nm_e (wy_cor0 (by omega) hF h1 (br_t rfl (nm_r (nI_1 _) (hY post h))))⟩⟩
