/-! the relation, and what is owed -/
def i_Rel (k : Nat) (u : SX) (v : SY) : Prop :=
  ∃ (r n : Nat) (X Y Z : Nat → Int32) (S : hp_T), 4 ≤ r ∧ r ≤ 14 ∧ n ≤ r ∧ hi_rg X Y Z n ∧ (∀ i j, i < n → j < n → i ≠ j → hi_P X Y Z i ≠ hi_P X Y Z j) ∧ hi_I (hi_P X Y Z) n S ∧ hf_CP n (hi_P X Y Z) S.1 (hi_B S.2.2.2.2.2.1) ∧ S.1 ≤ 24 ∧ (S.2.2.2.2.2.2 = true ↔ 0 < S.1) ∧ u = wx_st (nI r) n X Y Z S ∧ v = wy_st (nI r) n X Y Z S
theorem i_up {k : Nat} {u : SX} {v : SY} (h : i_Rel k u v) : i_Rel (k + 4) u v := h
theorem ir_new (k : Nat) {r n : Nat} {X Y Z : Nat → Int32} (h4 : 4 ≤ r) (h14 : r ≤ 14) (hn : n ≤ r) (R : hi_rg X Y Z n) (ds : ∀ i j, i < n → j < n → i ≠ j → hi_P X Y Z i ≠ hi_P X Y Z j) (a b c d e : Nat → Int32) :
    i_Rel k (wx_st (nI r) n X Y Z (hp_a X Y Z n (0, a, b, c, d, e, false))) (wy_st (nI r) n X Y Z (hp_a X Y Z n (0, a, b, c, d, e, false))) := by
  obtain ⟨h1, h2, h3, h5⟩ := hl_all (show n ≤ 14 by omega) R a b c d e
  exact ⟨r, n, X, Y, Z, _, h4, h14, hn, R, ds, h1, h2, h3, h5, rfl, rfl⟩
theorem ir_0 {r : Nat} (h4 : 4 ≤ r) (h14 : r ≤ 14) : i_Rel 1 (nI r, 0, 0, (fun _ => 0), (fun _ => 0), (fun _ => 0), (fun _ => 0), (fun _ => 0), (fun _ => 0), (fun _ => 0), (fun _ => 0)) (nI r, 0, 0, 0, (fun _ => 0), (fun _ => 0), (fun _ => 0), (fun _ => 0), (fun _ => 0), (fun _ => 0), (fun _ => 0), (fun _ => 0)) :=
  ir_new 1 (n := 0) h4 h14 (by omega) (fun i hi => absurd hi (Nat.not_lt_zero _)) (fun i j hi => absurd hi (Nat.not_lt_zero _)) (fun _ => 0) (fun _ => 0) (fun _ => 0) (fun _ => 0) (fun _ => 0)
theorem i_vc0 (k0 : Int32) : wpX_init (fun u => wpY_init (fun v => i_Rel 1 u v) k0) k0 := by
  by_cases h4 : 4 ≤ k0
  · by_cases h14 : k0 ≤ 14
    · have hp : ¬ k0 < 0 := fun l => absurd (Int32.lt_of_le_of_lt h4 l) (by decide)
      obtain ⟨j, hj, rfl⟩ := nI_of2 (M := 14) (n := 14) (by decide) hp h14
      have h4' : 4 ≤ j := (nI_leI (a := 4) (by omega) (by omega)).mp h4
      exact br_t h4 (br_t h14 (br_t h4 (br_t h14 (ir_0 h4' hj))))
    · exact br_t h4 (br_f h14 (br_t h4 (br_f h14 (ir_0 (r := 14) (by omega) (by omega)))))
  · exact br_f h4 (br_f h4 (ir_0 (r := 4) (by omega) (by omega)))
theorem i_vc_add {k : Nat} {u : SX} {v : SY} (I : i_Rel k u v) (hk : k + 4 ≤ 2049) (v1 : Int32) (v2 : Int32) (v3 : Int32) : wpX_add (fun r u' => wpY_add (fun r' v' => r' = r ∧ i_Rel (k + 4) u' v') v v1 v2 v3) u v1 v2 v3 := by
  have I0 := I
  obtain ⟨r, n, X, Y, Z, S, h4, h14, hn, R, ds, II, CP, cap, sol, rfl, rfl⟩ := I
  unfold wpX_add wpY_add
  dsimp only
  by_cases win : ww_in v1 60 ∧ ww_in v2 60 ∧ ww_in v3 60
  · by_cases full : n < r
    · have l1 : nI n < nI r := nI_lt full (by omega)
      have l2 : ¬ nI n = nI r := fun e => by have := (nI_eq (by omega) (by omega)).mp e; omega
      by_cases kn : ∃ p, 0 ≤ p ∧ p < n ∧ X p = v1 ∧ Y p = v2 ∧ Z p = v3
      · exact wx_wi1 win.1 win.2.1 win.2.2 (br_f (by decide) (br_t l1 ⟨n + 1, wx_hd1 (by omega) (br_f (by decide) (wy_w3a win.1 win.2.1 win.2.2 (br_f l2 ⟨n + 1, wy_hd1 (by omega) ⟨rfl, I0⟩ n 0 (by omega) kn⟩))) n 0 (by omega) kn⟩))
      · have nk : ∀ p, p < n → ¬ (X p = v1 ∧ Y p = v2 ∧ Z p = v3) := fun p hp e => kn ⟨p, Nat.zero_le _, hp, e⟩
        have R' := wt_R R win.1 win.2.1 win.2.2
        have D' := wt_D ds nk
        have vi : vp_in (nI n) 14 := vp_in_nI (by omega) (by omega)
        have cl : (nI n).toNatClampNeg = n := nI_clamp (by omega)
        have fin := ir_new (k + 4) h4 h14 (show n + 1 ≤ r by omega) R' D' S.2.1 S.2.2.1 S.2.2.2.1 S.2.2.2.2.1 S.2.2.2.2.2.1
        refine wx_wi1 win.1 win.2.1 win.2.2 (br_f (by decide) (br_t l1 ⟨n + 1, wx_hd0 (by omega) (br_t rfl ⟨vi, ?_⟩) nk n 0 (by omega)⟩))
        rw [cl]
        refine nm_e ⟨vi, nm_e ⟨vi, nm_e (nm_r (nI_1 _) (wx_find (by omega) R' ?_))⟩⟩
        exact wy_w3a win.1 win.2.1 win.2.2 (br_f l2 ⟨n + 1, wy_hd0 (by omega) R' ⟨rfl, fin⟩ nk n 0 (by omega)⟩)
    · have l1 : ¬ nI n < nI r := nI_nlt (by omega) (by omega)
      have l2 : nI n = nI r := by rw [show n = r by omega]
      exact wx_wi1 win.1 win.2.1 win.2.2 (br_f (by decide) (br_f l1 (wy_w3a win.1 win.2.1 win.2.2 (br_t l2 ⟨rfl, I0⟩))))
  · exact wx_wi0 win (br_t rfl (wy_w3b win ⟨rfl, I0⟩))
theorem i_vc_removeLast {k : Nat} {u : SX} {v : SY} (I : i_Rel k u v) (hk : k + 4 ≤ 2049) : wpX_removeLast (fun r u' => wpY_removeLast (fun r' v' => r' = r ∧ i_Rel (k + 4) u' v') v) u := by
  have I0 := I
  obtain ⟨r, n, X, Y, Z, S, h4, h14, hn, R, ds, II, CP, cap, sol, rfl, rfl⟩ := I
  cases n with
  | zero => exact br_t rfl (br_t rfl ⟨rfl, I0⟩)
  | succ n =>
    have hz : ¬ nI (n + 1) = 0 := nI_ne0 (by omega) (by omega)
    have R' : hi_rg X Y Z n := fun i hi => R i (by omega)
    have D' : ∀ i j, i < n → j < n → i ≠ j → hi_P X Y Z i ≠ hi_P X Y Z j := fun i j hi hj => ds i j (by omega) (by omega)
    have fin := ir_new (k + 4) h4 h14 (show n ≤ r by omega) R' D' S.2.1 S.2.2.1 S.2.2.2.1 S.2.2.2.2.1 S.2.2.2.2.2.1
    exact br_f hz (nm_r (nI_pred n) (wx_find (by omega) R' (br_f hz (nm_r (nI_pred n) (wy_find (by omega) R' ⟨rfl, fin⟩)))))
theorem i_vc_size {k : Nat} {u : SX} {v : SY} (I : i_Rel k u v) (hk : k + 4 ≤ 2049) : wpX_size (fun r => wpY_size (fun r' => r' = r ∧ i_Rel (k + 4) u v) v) u := by
  have I0 := I
  obtain ⟨r, n, X, Y, Z, S, h4, h14, hn, R, ds, II, CP, cap, sol, rfl, rfl⟩ := I
  exact ⟨rfl, I0⟩
theorem ir_s1 {b : Bool} {F : Nat} (h : b = true ↔ 0 < F) (h0 : 0 < F) : wt_i b = 1 := wt_1 (h.mpr h0)
theorem ir_s0 {b : Bool} {F : Nat} (h : b = true ↔ 0 < F) (h0 : ¬ 0 < F) : wt_i b = 0 := wt_0 fun e => h0 (h.mp e)
theorem i_vc_solid {k : Nat} {u : SX} {v : SY} (I : i_Rel k u v) (hk : k + 4 ≤ 2049) : wpX_solid (fun r => wpY_solid (fun r' => r' = r ∧ i_Rel (k + 4) u v) v) u := by
  have I0 := I
  obtain ⟨r, n, X, Y, Z, S, h4, h14, hn, R, ds, II, CP, cap, sol, rfl, rfl⟩ := I
  by_cases h0 : 0 < S.1
  · have e := ir_s1 sol h0
    refine wx_so1 h0 cap ⟨?_, ?_⟩
    · rw [e]; rfl
    · exact ⟨e, I0⟩
  · have e := ir_s0 sol h0
    refine wx_so0 (by omega) ⟨?_, ?_⟩
    · rw [e]; rfl
    · exact ⟨e, I0⟩
theorem i_vc_side {k : Nat} {u : SX} {v : SY} (I : i_Rel k u v) (hk : k + 4 ≤ 2049) (v1 : Int32) (v2 : Int32) (v3 : Int32) : wpX_side (fun r => wpY_side (fun r' => r' = r ∧ i_Rel (k + 4) u v) v v1 v2 v3) u v1 v2 v3 := by
  have I0 := I
  obtain ⟨r, n, X, Y, Z, S, h4, h14, hn, R, ds, II, CP, cap, sol, rfl, rfl⟩ := I
  unfold wpX_side wpY_side
  dsimp only
  by_cases win : ww_in v1 200 ∧ ww_in v2 200 ∧ ww_in v3 200
  · by_cases h0 : 0 < S.1
    · obtain ⟨q, hX, hY⟩ := wq_side (rm := nI r) (so := wt_i S.2.2.2.2.2.2) (n := n) (F := S.1) (X := X) (Y := Y) (Z := Z) (A := S.2.1) (B := S.2.2.1) (C := S.2.2.2.1) (D := S.2.2.2.2.1) (M := S.2.2.2.2.2.1) cap v1 v2 v3 S.1 0 (by omega) false
      exact wx_wi1 win.1 win.2.1 win.2.2 (br_f (by decide) (wx_so1 h0 cap (br_f (by decide) ⟨_, hX _ (wy_rp2 win.1 win.2.1 win.2.2 (ir_s1 sol h0) (br_t (by decide) ⟨_, hY _ ⟨rfl, I0⟩⟩))⟩)))
    · exact wx_wi1 win.1 win.2.1 win.2.2 (br_f (by decide) (wx_so0 (by omega) (br_t rfl (wy_rp1 win.1 win.2.1 win.2.2 (ir_s0 sol h0) (br_f (by decide) ⟨rfl, I0⟩)))))
  · exact wx_wi0 win (br_t rfl (wy_rp0 win (br_f (by decide) ⟨rfl, I0⟩)))
theorem i_vc_visible {k : Nat} {u : SX} {v : SY} (I : i_Rel k u v) (hk : k + 4 ≤ 2049) (v1 : Int32) (v2 : Int32) (v3 : Int32) : wpX_visible (fun r => wpY_visible (fun r' => r' = r ∧ i_Rel (k + 4) u v) v v1 v2 v3) u v1 v2 v3 := by
  have I0 := I
  obtain ⟨r, n, X, Y, Z, S, h4, h14, hn, R, ds, II, CP, cap, sol, rfl, rfl⟩ := I
  unfold wpX_visible wpY_visible
  dsimp only
  by_cases win : ww_in v1 200 ∧ ww_in v2 200 ∧ ww_in v3 200
  · by_cases h0 : 0 < S.1
    · obtain ⟨q, hX, hY⟩ := wq_vis (rm := nI r) (so := wt_i S.2.2.2.2.2.2) (n := n) (F := S.1) (X := X) (Y := Y) (Z := Z) (A := S.2.1) (B := S.2.2.1) (C := S.2.2.2.1) (D := S.2.2.2.2.1) (M := S.2.2.2.2.2.1) cap v1 v2 v3 S.1 0 (by omega) 0
      exact wx_wi1 win.1 win.2.1 win.2.2 (br_f (by decide) (wx_so1 h0 cap (br_f (by decide) ⟨_, hX _ (wy_rp2 win.1 win.2.1 win.2.2 (ir_s1 sol h0) (br_t (by decide) ⟨_, hY _ ⟨rfl, I0⟩⟩))⟩)))
    · exact wx_wi1 win.1 win.2.1 win.2.2 (br_f (by decide) (wx_so0 (by omega) (br_t rfl (wy_rp1 win.1 win.2.1 win.2.2 (ir_s0 sol h0) (br_f (by decide) ⟨rfl, I0⟩)))))
  · exact wx_wi0 win (br_t rfl (wy_rp0 win (br_f (by decide) ⟨rfl, I0⟩)))
theorem i_vc_facets {k : Nat} {u : SX} {v : SY} (I : i_Rel k u v) (hk : k + 4 ≤ 2049) : wpX_facets (fun r => wpY_facets (fun r' => r' = r ∧ i_Rel (k + 4) u v) v) u := by
  have I0 := I
  obtain ⟨r, n, X, Y, Z, S, h4, h14, hn, R, ds, II, CP, cap, sol, rfl, rfl⟩ := I
  unfold wpX_facets wpY_facets
  dsimp only
  by_cases h0 : 0 < S.1
  · exact wx_so1 h0 cap (br_f (by decide) (br_f (by rw [ir_s1 sol h0]; decide) ⟨rfl, I0⟩))
  · exact wx_so0 (by omega) (br_t rfl (br_t (ir_s0 sol h0) ⟨rfl, I0⟩))
theorem i_vc_corners {k : Nat} {u : SX} {v : SY} (I : i_Rel k u v) (hk : k + 4 ≤ 2049) : wpX_corners (fun r => wpY_corners (fun r' => r' = r ∧ i_Rel (k + 4) u v) v) u := by
  have I0 := I
  obtain ⟨r, n, X, Y, Z, S, h4, h14, hn, R, ds, II, CP, cap, sol, rfl, rfl⟩ := I
  unfold wpX_corners wpY_corners
  dsimp only
  by_cases h0 : 0 < S.1
  · obtain ⟨q, hX, hY⟩ := wq_crn (rm := nI r) (so := wt_i S.2.2.2.2.2.2) (n := n) (F := S.1) (X := X) (Y := Y) (Z := Z) (A := S.2.1) (B := S.2.2.1) (C := S.2.2.2.1) (D := S.2.2.2.2.1) (M := S.2.2.2.2.2.1) (by omega) cap n 0 (by omega) 0
    exact wx_so1 h0 cap (br_f (by decide) ⟨_, hX _ (br_f (by rw [ir_s1 sol h0]; decide) ⟨_, hY _ ⟨rfl, I0⟩⟩)⟩)
  · exact wx_so0 (by omega) (br_t rfl (br_t (ir_s0 sol h0) ⟨rfl, I0⟩))
theorem i_vc_edges {k : Nat} {u : SX} {v : SY} (I : i_Rel k u v) (hk : k + 4 ≤ 2049) : wpX_edges (fun r => wpY_edges (fun r' => r' = r ∧ i_Rel (k + 4) u v) v) u := by
  have I0 := I
  obtain ⟨r, n, X, Y, Z, S, h4, h14, hn, R, ds, II, CP, cap, sol, rfl, rfl⟩ := I
  unfold wpX_edges wpY_edges
  dsimp only
  by_cases h0 : 0 < S.1
  · obtain ⟨q, hX, hY⟩ := wq_edg (rm := nI r) (so := wt_i S.2.2.2.2.2.2) (n := n) (F := S.1) (X := X) (Y := Y) (Z := Z) (A := S.2.1) (B := S.2.2.1) (C := S.2.2.2.1) (D := S.2.2.2.2.1) (M := S.2.2.2.2.2.1) (by omega) cap n 0 (by omega) 0
    exact wx_so1 h0 cap (br_f (by decide) ⟨_, hX _ (br_f (by rw [ir_s1 sol h0]; decide) ⟨_, hY _ ⟨rfl, I0⟩⟩)⟩)
  · exact wx_so0 (by omega) (br_t rfl (br_t (ir_s0 sol h0) ⟨rfl, I0⟩))
theorem ir_pt (x : Int32) (n : Nat) : (∃ p, p < n ∧ x = nI p) ∨ (∀ p, p < n → x ≠ nI p) := by
  by_cases h : ∃ p, p < n ∧ x = nI p
  · exact Or.inl h
  · exact Or.inr fun p hp e => h ⟨p, hp, e⟩
theorem i_vc_corner {k : Nat} {u : SX} {v : SY} (I : i_Rel k u v) (hk : k + 4 ≤ 2049) (v1 : Int32) : wpX_corner (fun r => wpY_corner (fun r' => r' = r ∧ i_Rel (k + 4) u v) v v1) u v1 := by
  have I0 := I
  obtain ⟨r, n, X, Y, Z, S, h4, h14, hn, R, ds, II, CP, cap, sol, rfl, rfl⟩ := I
  unfold wpX_corner wpY_corner
  dsimp only
  have n14 : n ≤ 14 := by omega
  rcases ir_pt v1 n with ⟨a, ha, rfl⟩ | hx
  · by_cases h0 : 0 < S.1
    · by_cases c : 3 ≤ he_w S.1 (hi_B S.2.2.2.2.2.1) a a
      · exact wx_pt1 ha n14 (br_f (by decide) (wx_so1 h0 cap (br_f (by decide) (wx_cor1 (by omega) cap c (br_f (by decide) (wy_rq2 n14 ha ha (ir_s1 sol h0) (br_t (by decide) (wy_cor1 (by omega) cap c (br_f (by decide) ⟨rfl, I0⟩)))))))))
      · exact wx_pt1 ha n14 (br_f (by decide) (wx_so1 h0 cap (br_f (by decide) (wx_cor0 (by omega) cap c (br_t rfl (wy_rq2 n14 ha ha (ir_s1 sol h0) (br_t (by decide) (wy_cor0 (by omega) cap c (br_t rfl ⟨rfl, I0⟩)))))))))
    · exact wx_pt1 ha n14 (br_f (by decide) (wx_so0 (by omega) (br_t rfl (wy_rq1 n14 ha ha (ir_s0 sol h0) (br_f (by decide) ⟨rfl, I0⟩)))))
  · exact wx_pt0 hx n14 (br_t rfl (wy_rq0 n14 (Or.inl hx) (br_f (by decide) ⟨rfl, I0⟩)))
theorem i_vc_touching {k : Nat} {u : SX} {v : SY} (I : i_Rel k u v) (hk : k + 4 ≤ 2049) (v1 : Int32) : wpX_touching (fun r => wpY_touching (fun r' => r' = r ∧ i_Rel (k + 4) u v) v v1) u v1 := by
  have I0 := I
  obtain ⟨r, n, X, Y, Z, S, h4, h14, hn, R, ds, II, CP, cap, sol, rfl, rfl⟩ := I
  unfold wpX_touching wpY_touching wpY_shared
  dsimp only
  have n14 : n ≤ 14 := by omega
  rcases ir_pt v1 n with ⟨a, ha, rfl⟩ | hx
  · by_cases h0 : 0 < S.1
    · exact wx_pt1 ha n14 (br_f (by decide) (wx_so1 h0 cap (br_f (by decide) (wx_cnt (by omega) (by omega) cap (wy_rq2 n14 ha ha (ir_s1 sol h0) (br_t (by decide) (wy_cnt (by omega) (by omega) cap ⟨rfl, I0⟩)))))))
    · exact wx_pt1 ha n14 (br_f (by decide) (wx_so0 (by omega) (br_t rfl (wy_rq1 n14 ha ha (ir_s0 sol h0) (br_f (by decide) ⟨rfl, I0⟩)))))
  · exact wx_pt0 hx n14 (br_t rfl (wy_rq0 n14 (Or.inl hx) (br_f (by decide) ⟨rfl, I0⟩)))
theorem i_vc_edge {k : Nat} {u : SX} {v : SY} (I : i_Rel k u v) (hk : k + 4 ≤ 2049) (v1 : Int32) (v2 : Int32) : wpX_edge (fun r => wpY_edge (fun r' => r' = r ∧ i_Rel (k + 4) u v) v v1 v2) u v1 v2 := by
  have I0 := I
  obtain ⟨r, n, X, Y, Z, S, h4, h14, hn, R, ds, II, CP, cap, sol, rfl, rfl⟩ := I
  unfold wpX_edge wpY_edge
  dsimp only
  have n14 : n ≤ 14 := by omega
  rcases ir_pt v1 n with ⟨a, ha, rfl⟩ | hx
  · rcases ir_pt v2 n with ⟨b, hb, rfl⟩ | hy
    · by_cases h0 : 0 < S.1
      · by_cases c : he_e S.1 (hi_B S.2.2.2.2.2.1) a b = true
        · exact wx_pt1 ha n14 (br_f (by decide) (wx_pt1 hb n14 (br_f (by decide) (wx_so1 h0 cap (br_f (by decide) (wx_edg1 (by omega) (by omega) cap c (br_f (by decide) (wy_rq2 n14 ha hb (ir_s1 sol h0) (br_t (by decide) (wy_edg1 (by omega) (by omega) cap c (br_f (by decide) ⟨rfl, I0⟩)))))))))))
        · exact wx_pt1 ha n14 (br_f (by decide) (wx_pt1 hb n14 (br_f (by decide) (wx_so1 h0 cap (br_f (by decide) (wx_edg0 (by omega) (by omega) cap c (br_t rfl (wy_rq2 n14 ha hb (ir_s1 sol h0) (br_t (by decide) (wy_edg0 (by omega) (by omega) cap c (br_t rfl ⟨rfl, I0⟩)))))))))))
      · exact wx_pt1 ha n14 (br_f (by decide) (wx_pt1 hb n14 (br_f (by decide) (wx_so0 (by omega) (br_t rfl (wy_rq1 n14 ha hb (ir_s0 sol h0) (br_f (by decide) ⟨rfl, I0⟩)))))))
    · exact wx_pt1 ha n14 (br_f (by decide) (wx_pt0 hy n14 (br_t rfl (wy_rq0 n14 (Or.inr hy) (br_f (by decide) ⟨rfl, I0⟩)))))
  · exact wx_pt0 hx n14 (br_t rfl (wy_rq0 n14 (Or.inl hx) (br_f (by decide) ⟨rfl, I0⟩)))
theorem i_vc_shared {k : Nat} {u : SX} {v : SY} (I : i_Rel k u v) (hk : k + 4 ≤ 2049) (v1 : Int32) (v2 : Int32) : wpX_shared (fun r => wpY_shared (fun r' => r' = r ∧ i_Rel (k + 4) u v) v v1 v2) u v1 v2 := by
  have I0 := I
  obtain ⟨r, n, X, Y, Z, S, h4, h14, hn, R, ds, II, CP, cap, sol, rfl, rfl⟩ := I
  unfold wpX_shared wpY_shared
  dsimp only
  have n14 : n ≤ 14 := by omega
  rcases ir_pt v1 n with ⟨a, ha, rfl⟩ | hx
  · rcases ir_pt v2 n with ⟨b, hb, rfl⟩ | hy
    · by_cases h0 : 0 < S.1
      · exact wx_pt1 ha n14 (br_f (by decide) (wx_pt1 hb n14 (br_f (by decide) (wx_so1 h0 cap (br_f (by decide) (wx_cnt (by omega) (by omega) cap (wy_rq2 n14 ha hb (ir_s1 sol h0) (br_t (by decide) (wy_cnt (by omega) (by omega) cap ⟨rfl, I0⟩)))))))))
      · exact wx_pt1 ha n14 (br_f (by decide) (wx_pt1 hb n14 (br_f (by decide) (wx_so0 (by omega) (br_t rfl (wy_rq1 n14 ha hb (ir_s0 sol h0) (br_f (by decide) ⟨rfl, I0⟩)))))))
    · exact wx_pt1 ha n14 (br_f (by decide) (wx_pt0 hy n14 (br_t rfl (wy_rq0 n14 (Or.inr hy) (br_f (by decide) ⟨rfl, I0⟩)))))
  · exact wx_pt0 hx n14 (br_t rfl (wy_rq0 n14 (Or.inl hx) (br_f (by decide) ⟨rfl, I0⟩)))
theorem i_vc_sixVolume {k : Nat} {u : SX} {v : SY} (I : i_Rel k u v) (hk : k + 4 ≤ 2049) : wpX_sixVolume (fun r => wpY_sixVolume (fun r' => r' = r ∧ i_Rel (k + 4) u v) v) u := by
  have I0 := I
  obtain ⟨r, n, X, Y, Z, S, h4, h14, hn, R, ds, II, CP, cap, sol, rfl, rfl⟩ := I
  unfold wpX_sixVolume wpY_sixVolume
  dsimp only
  by_cases h0 : 0 < S.1
  · obtain ⟨q, hX, hY⟩ := wq_vol (rm := nI r) (so := wt_i S.2.2.2.2.2.2) (n := n) (F := S.1) (X := X) (Y := Y) (Z := Z) (A := S.2.1) (B := S.2.2.1) (C := S.2.2.2.1) (D := S.2.2.2.2.1) (M := S.2.2.2.2.2.1) (by omega) R cap II.1 CP ds S.1 0 (by omega) 0
    exact wx_so1 h0 cap (br_f (by decide) ⟨_, hX _ (br_f (by rw [ir_s1 sol h0]; decide) ⟨_, hY _ ⟨rfl, I0⟩⟩)⟩)
  · exact wx_so0 (by omega) (br_t rfl (br_t (ir_s0 sol h0) ⟨rfl, I0⟩))
theorem i_vc_farthest {k : Nat} {u : SX} {v : SY} (I : i_Rel k u v) (hk : k + 4 ≤ 2049) (v1 : Int32) (v2 : Int32) (v3 : Int32) : wpX_farthest (fun r => wpY_farthest (fun r' => r' = r ∧ i_Rel (k + 4) u v) v v1 v2 v3) u v1 v2 v3 := by
  have I0 := I
  obtain ⟨r, n, X, Y, Z, S, h4, h14, hn, R, ds, II, CP, cap, sol, rfl, rfl⟩ := I
  unfold wpX_farthest wpY_farthest
  dsimp only
  by_cases win : ww_in v1 200 ∧ ww_in v2 200 ∧ ww_in v3 200
  · by_cases h0 : 0 < S.1
    · obtain ⟨q, hX, hY⟩ := wq_far (rm := nI r) (so := wt_i S.2.2.2.2.2.2) (n := n) (F := S.1) (X := X) (Y := Y) (Z := Z) (A := S.2.1) (B := S.2.2.1) (C := S.2.2.2.1) (D := S.2.2.2.2.1) (M := S.2.2.2.2.2.1) (by omega) cap v1 v2 v3 n 0 (by omega) (-1) 0
      exact wx_wi1 win.1 win.2.1 win.2.2 (br_f (by decide) (wx_so1 h0 cap (br_f (by decide) ⟨_, hX _ (wy_rp2 win.1 win.2.1 win.2.2 (ir_s1 sol h0) (br_t (by decide) ⟨_, hY _ ⟨rfl, I0⟩⟩))⟩)))
    · exact wx_wi1 win.1 win.2.1 win.2.2 (br_f (by decide) (wx_so0 (by omega) (br_t rfl (wy_rp1 win.1 win.2.1 win.2.2 (ir_s0 sol h0) (br_f (by decide) ⟨rfl, I0⟩)))))
  · exact wx_wi0 win (br_t rfl (wy_rp0 win (br_f (by decide) ⟨rfl, I0⟩)))
