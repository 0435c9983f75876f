/-! a point that is held already, both sides; a new point -/
variable {rm so : Int32} {n F : Nat} {X Y Z A B C D M : Nat → Int32}
theorem wx_hd1 {post : Int32 → Prop} (hn : n ≤ 14) {x y z : Int32} (h : post 1) : ∀ d j, j + d = n → (∃ p, j ≤ p ∧ p < n ∧ X p = x ∧ Y p = y ∧ Z p = z) → wX_holds_3 post x y z rm (nI n) (nI F) X Y Z A B C D M (d + 1) (nI j) := by
  intro d
  induction d with
  | zero => intro j hj ⟨p, h1, h2, _⟩; exact absurd h1 (by omega)
  | succ d ih =>
    intro j hj ⟨p, h1, h2, h3, h4, h5⟩
    have hj' : ¬ nI n ≤ nI j := nI_ge (by omega) (by omega)
    have vi : vp_in (nI j) 14 := vp_in_nI (by omega) (by omega)
    have cl : (nI j).toNatClampNeg = j := nI_clamp (by omega)
    by_cases e : p = j
    · subst e
      exact br_f hj' ⟨vi, br_t (by rw [cl]; exact h3) ⟨vi, br_t (by rw [cl]; exact h4) ⟨vi, br_t (by rw [cl]; exact h5) h⟩⟩⟩
    · have i1 := ih (j + 1) (by omega) ⟨p, by omega, h2, h3, h4, h5⟩
      by_cases ex : X (nI j).toNatClampNeg = x
      · by_cases ey : Y (nI j).toNatClampNeg = y
        · by_cases ez : Z (nI j).toNatClampNeg = z
          · exact br_f hj' ⟨vi, br_t ex ⟨vi, br_t ey ⟨vi, br_t ez h⟩⟩⟩
          · exact br_f hj' ⟨vi, br_t ex ⟨vi, br_t ey ⟨vi, br_f ez (nm_r (nI_1 _) i1)⟩⟩⟩
        · exact br_f hj' ⟨vi, br_t ex ⟨vi, br_f ey (nm_r (nI_1 _) i1)⟩⟩
      · exact br_f hj' ⟨vi, br_f ex (nm_r (nI_1 _) i1)⟩
theorem wx_hd0 {post : Int32 → Prop} (hn : n ≤ 14) {x y z : Int32} (h : post 0) (nk : ∀ p, p < n → ¬ (X p = x ∧ Y p = y ∧ Z p = z)) : ∀ d j, j + d = n → wX_holds_3 post x y z rm (nI n) (nI F) X Y Z A B C D M (d + 1) (nI j) := by
  intro d
  induction d with
  | zero =>
    intro j hj
    exact br_t (nI_le (by omega) (by omega)) h
  | succ d ih =>
    intro j hj
    have hj' : ¬ nI n ≤ nI j := nI_ge (by omega) (by omega)
    have vi : vp_in (nI j) 14 := vp_in_nI (by omega) (by omega)
    have cl : (nI j).toNatClampNeg = j := nI_clamp (by omega)
    have i1 := ih (j + 1) (by omega)
    have nj := nk j (by omega)
    by_cases ex : X (nI j).toNatClampNeg = x
    · by_cases ey : Y (nI j).toNatClampNeg = y
      · by_cases ez : Z (nI j).toNatClampNeg = z
        · rw [cl] at ex ey ez
          exact absurd ⟨ex, ey, ez⟩ nj
        · exact br_f hj' ⟨vi, br_t ex ⟨vi, br_t ey ⟨vi, br_f ez (nm_r (nI_1 _) i1)⟩⟩⟩
      · exact br_f hj' ⟨vi, br_t ex ⟨vi, br_f ey (nm_r (nI_1 _) i1)⟩⟩
    · exact br_f hj' ⟨vi, br_f ex (nm_r (nI_1 _) i1)⟩
theorem wy_hd1 {post : Int32 → SY → Prop} (hn : n ≤ 14) {x y z : Int32} (h : post (-3) (rm, nI n, so, nI F, X, Y, Z, A, B, C, D, M)) : ∀ d j, j + d = n → (∃ p, j ≤ p ∧ p < n ∧ X p = x ∧ Y p = y ∧ Z p = z) → wY_add_46 post x y z rm (nI n) so (nI F) X Y Z A B C D M (d + 1) (nI j) := by
  intro d
  induction d with
  | zero => intro j hj ⟨p, h1, h2, _⟩; exact absurd h1 (by omega)
  | succ d ih =>
    intro j hj ⟨p, h1, h2, h3, h4, h5⟩
    have hj' : ¬ nI n ≤ nI j := nI_ge (by omega) (by omega)
    have vi : vp_in (nI j) 14 := vp_in_nI (by omega) (by omega)
    have cl : (nI j).toNatClampNeg = j := nI_clamp (by omega)
    by_cases e : p = j
    · subst e
      exact br_f hj' ⟨vi, br_t (by rw [cl]; exact h3) ⟨vi, br_t (by rw [cl]; exact h4) ⟨vi, br_t (by rw [cl]; exact h5) h⟩⟩⟩
    · have i1 := ih (j + 1) (by omega) ⟨p, by omega, h2, h3, h4, h5⟩
      by_cases ex : X (nI j).toNatClampNeg = x
      · by_cases ey : Y (nI j).toNatClampNeg = y
        · by_cases ez : Z (nI j).toNatClampNeg = z
          · exact br_f hj' ⟨vi, br_t ex ⟨vi, br_t ey ⟨vi, br_t ez h⟩⟩⟩
          · exact br_f hj' ⟨vi, br_t ex ⟨vi, br_t ey ⟨vi, br_f ez (nm_r (nI_1 _) i1)⟩⟩⟩
        · exact br_f hj' ⟨vi, br_t ex ⟨vi, br_f ey (nm_r (nI_1 _) i1)⟩⟩
      · exact br_f hj' ⟨vi, br_f ex (nm_r (nI_1 _) i1)⟩
theorem wy_hd0 {post : Int32 → SY → Prop} (hn : n < 14) {x y z : Int32} (R : hi_rg (upd X n x) (upd Y n y) (upd Z n z) (n + 1)) (h : post (nI n) (wy_st rm (n + 1) (upd X n x) (upd Y n y) (upd Z n z) (hp_a (upd X n x) (upd Y n y) (upd Z n z) (n + 1) (0, A, B, C, D, M, false)))) (nk : ∀ p, p < n → ¬ (X p = x ∧ Y p = y ∧ Z p = z)) : ∀ d j, j + d = n → wY_add_46 post x y z rm (nI n) so (nI F) X Y Z A B C D M (d + 1) (nI j) := by
  intro d
  induction d with
  | zero =>
    intro j hj
    have vi : vp_in (nI n) 14 := vp_in_nI (by omega) (by omega)
    have cl : (nI n).toNatClampNeg = n := nI_clamp (by omega)
    refine br_t (nI_le (by omega) (by omega)) ⟨vi, ?_⟩
    rw [cl]
    refine nm_e ⟨vi, nm_e ⟨vi, nm_e (nm_r (nI_1 _) (wy_find (by omega) R ?_))⟩⟩
    dsimp only
    rw [nI_pred]
    exact h
  | succ d ih =>
    intro j hj
    have hj' : ¬ nI n ≤ nI j := nI_ge (by omega) (by omega)
    have vi : vp_in (nI j) 14 := vp_in_nI (by omega) (by omega)
    have cl : (nI j).toNatClampNeg = j := nI_clamp (by omega)
    have i1 := ih (j + 1) (by omega)
    have nj := nk j (by omega)
    by_cases ex : X (nI j).toNatClampNeg = x
    · by_cases ey : Y (nI j).toNatClampNeg = y
      · by_cases ez : Z (nI j).toNatClampNeg = z
        · rw [cl] at ex ey ez
          exact absurd ⟨ex, ey, ez⟩ nj
        · exact br_f hj' ⟨vi, br_t ex ⟨vi, br_t ey ⟨vi, br_f ez (nm_r (nI_1 _) i1)⟩⟩⟩
      · exact br_f hj' ⟨vi, br_t ex ⟨vi, br_f ey (nm_r (nI_1 _) i1)⟩⟩
    · exact br_f hj' ⟨vi, br_f ex (nm_r (nI_1 _) i1)⟩
theorem wt_60 {v : Int32} (h : ww_in v 60) : -60 ≤ v.toInt ∧ v.toInt ≤ 60 := by
  obtain ⟨h1, h2⟩ := h
  rw [Int32.lt_iff_toInt_lt] at h1 h2
  have e1 : (-(60 : Int32)).toInt = -60 := by decide
  have e2 : (60 : Int32).toInt = 60 := by decide
  rw [e1] at h1
  rw [e2] at h2
  omega
theorem wt_Pn (X Y Z : Nat → Int32) (n : Nat) (x y z : Int32) : hi_P (upd X n x) (upd Y n y) (upd Z n z) n = (x.toInt, y.toInt, z.toInt) := by
  simp only [hi_P, pk_us]
theorem wt_Po (X Y Z : Nat → Int32) {n i : Nat} (x y z : Int32) (h : i ≠ n) : hi_P (upd X n x) (upd Y n y) (upd Z n z) i = hi_P X Y Z i := by
  simp only [hi_P, pk_un h]
theorem wt_R {x y z : Int32} (R : hi_rg X Y Z n) (hx : ww_in x 60) (hy : ww_in y 60) (hz : ww_in z 60) : hi_rg (upd X n x) (upd Y n y) (upd Z n z) (n + 1) := by
  intro i hi
  by_cases e : i = n
  · rw [e, wt_Pn]
    have a := wt_60 hx
    have b := wt_60 hy
    have c := wt_60 hz
    exact ⟨a.1, a.2, b.1, b.2, c.1, c.2⟩
  · rw [wt_Po X Y Z x y z e]
    exact R i (by omega)
theorem wt_D {x y z : Int32} (ds : ∀ i j, i < n → j < n → i ≠ j → hi_P X Y Z i ≠ hi_P X Y Z j) (nk : ∀ p, p < n → ¬ (X p = x ∧ Y p = y ∧ Z p = z)) : ∀ i j, i < n + 1 → j < n + 1 → i ≠ j → hi_P (upd X n x) (upd Y n y) (upd Z n z) i ≠ hi_P (upd X n x) (upd Y n y) (upd Z n z) j := by
  have key : ∀ p, p < n → hi_P X Y Z p ≠ (x.toInt, y.toInt, z.toInt) := by
    intro p hp e
    have e1 := congrArg Prod.fst e
    have e2 := congrArg (fun q => q.2.1) e
    have e3 := congrArg (fun q => q.2.2) e
    exact nk p hp ⟨Int32.toInt_inj.mp e1, Int32.toInt_inj.mp e2, Int32.toInt_inj.mp e3⟩
  intro i j hi hj hij
  by_cases ei : i = n
  · have ej : j ≠ n := by omega
    rw [ei, wt_Pn, wt_Po X Y Z x y z ej]
    exact Ne.symm (key j (by omega))
  · by_cases ej : j = n
    · rw [ej, wt_Pn, wt_Po X Y Z x y z ei]
      exact key i (by omega)
    · rw [wt_Po X Y Z x y z ei, wt_Po X Y Z x y z ej]
      exact ds i j (by omega) (by omega) hij
