/-! the other side's search is the same fold -/
variable {rm : Int32} {n : Nat} {X Y Z : Nat → Int32}
abbrev wy_st (rm : Int32) (n : Nat) (X Y Z : Nat → Int32) (S : hp_T) : SY := (rm, nI n, wt_i S.2.2.2.2.2.2, nI S.1, X, Y, Z, S.2.1, S.2.2.1, S.2.2.2.1, S.2.2.2.2.1, S.2.2.2.2.2.1)
theorem wy_kpL1 {post : SY → Prop} {so : Int32} {F : Nat} {A B C D M : Nat → Int32} {x1 x2 x3 x4 k : Int32} (hF : F ≤ 24) (h : post (rm, nI n, so, nI F, X, Y, Z, A, B, C, D, M)) : ∀ d j, j + d = F → (∃ f, j ≤ f ∧ f < F ∧ M f = k) → wY_keep_3 post x1 x2 x3 x4 k rm (nI n) so (nI F) X Y Z A B C D M (d + 1) (nI j) := by
  intro d
  induction d with
  | zero => intro j hj ⟨f, h1, h2, _⟩; exact absurd h1 (by omega)
  | succ d ih =>
    intro j hj ⟨f, h1, h2, h3⟩
    have hj' : ¬ nI F ≤ nI j := nI_ge (by omega) (by omega)
    have vi : vp_in (nI j) 364 := vp_in_nI (by omega) (by omega)
    have cl : (nI j).toNatClampNeg = j := nI_clamp (by omega)
    by_cases e : M j = k
    · exact br_f hj' ⟨vi, br_t (by rw [cl]; exact e) h⟩
    · refine br_f hj' ⟨vi, br_f (by rw [cl]; exact e) (nm_r (nI_1 _) (ih (j + 1) (by omega) ⟨f, ?_, h2, h3⟩))⟩
      by_cases e2 : f = j
      · rw [e2] at h3; exact absurd h3 e
      · omega
theorem wy_kpL0 {post : SY → Prop} {so : Int32} {F : Nat} {A B C D M : Nat → Int32} {x1 x2 x3 x4 k : Int32} (hF : F ≤ 24) (h : post (rm, nI n, so, nI (F + 1), X, Y, Z, upd A F x1, upd B F x2, upd C F x3, upd D F x4, upd M F k)) (hk : ∀ f, f < F → M f ≠ k) : ∀ d j, j + d = F → wY_keep_3 post x1 x2 x3 x4 k rm (nI n) so (nI F) X Y Z A B C D M (d + 1) (nI j) := by
  intro d
  induction d with
  | zero =>
    intro j hj
    have vi : vp_in (nI F) 364 := vp_in_nI (by omega) (by omega)
    have cl : (nI F).toNatClampNeg = F := nI_clamp (by omega)
    refine br_t (nI_le (by omega) (by omega)) ⟨vi, ?_⟩
    rw [cl]
    exact nm_e ⟨vi, nm_e ⟨vi, nm_e ⟨vi, nm_e ⟨vi, nm_e (nm_r (nI_1 _) h)⟩⟩⟩⟩
  | succ d ih =>
    intro j hj
    have hj' : ¬ nI F ≤ nI j := nI_ge (by omega) (by omega)
    have vi : vp_in (nI j) 364 := vp_in_nI (by omega) (by omega)
    have cl : (nI j).toNatClampNeg = j := nI_clamp (by omega)
    exact br_f hj' ⟨vi, br_f (by rw [cl]; exact hk j (by omega)) (nm_r (nI_1 _) (ih (j + 1) (by omega)))⟩
theorem wy_keep {post : SY → Prop} {S : hp_T} {nx ny nz lv mk : Int32} (hF : S.1 ≤ 24) (h : post (wy_st rm n X Y Z (hp_keep S nx ny nz lv mk))) : wpY_keep post (wy_st rm n X Y Z S) nx ny nz lv mk := by
  unfold hp_keep at h
  by_cases kn : hp_kn S.2.2.2.2.2.1 S.1 mk = true
  · rw [if_pos kn] at h
    exact ⟨S.1 + 1, wy_kpL1 hF h S.1 0 (by omega) (wt_kn kn)⟩
  · rw [if_neg kn] at h
    exact ⟨S.1 + 1, wy_kpL0 hF h (wt_nk kn) S.1 0 (by omega)⟩
theorem wy_t309 {post : SY → Prop} {S : hp_T} {x1 x2 x3 x4 k : Int32} {ab be : Bool} (h1 : ab = true → be = true → post (wy_st rm n X Y Z S)) (h2 : ¬ ab = true → post (wy_st rm n X Y Z S)) (h3 : ab = true → ¬ be = true → wpY_keep post (wy_st rm n X Y Z S) (-x1) (-x2) (-x3) (-x4) k) :
    wY_tryPlane_309 post x1 x2 x3 x4 (wt_i ab) (wt_i be) k rm (nI n) (wt_i S.2.2.2.2.2.2) (nI S.1) X Y Z S.2.1 S.2.2.1 S.2.2.2.1 S.2.2.2.2.1 S.2.2.2.2.2.1 := by
  by_cases a : ab = true
  · by_cases b : be = true
    · exact br_f (wt_n a) (br_f (wt_n b) (h1 a b))
    · exact br_f (wt_n a) (br_t (wt_0 b) (h3 a b))
  · exact br_t (wt_0 a) (h2 a)
theorem wy_sl (S : hp_T) : wy_st rm n X Y Z (hp_sl S true) = (rm, nI n, 1, nI S.1, X, Y, Z, S.2.1, S.2.2.1, S.2.2.2.1, S.2.2.2.2.1, S.2.2.2.2.2.1) := by
  have : (S.2.2.2.2.2.2 || true) = true := Bool.or_true _
  simp only [wy_st, hp_sl, wt_1 this]
theorem wy_tpE {post : SY → Prop} {S : hp_T} {a b c : Nat} (hF : S.1 ≤ 24) (h : post (wy_st rm n X Y Z (hp_try X Y Z n a b c S))) :
    ((wt_i (hp_ab X Y Z a b c n) = 0 → ((wt_i (hp_be X Y Z a b c n) = 0 → wY_tryPlane_285 post (hp_nx X Y Z a b c) (hp_ny X Y Z a b c) (hp_nz X Y Z a b c) (hp_lv X Y Z a b c) (wt_i (hp_ab X Y Z a b c n)) (wt_i (hp_be X Y Z a b c n)) (hp_ms X Y Z a b c n) rm (nI n) (wt_i S.2.2.2.2.2.2) (nI S.1) X Y Z S.2.1 S.2.2.1 S.2.2.2.1 S.2.2.2.2.1 S.2.2.2.2.2.1) ∧ (¬ wt_i (hp_be X Y Z a b c n) = 0 → wY_tryPlane_280 post (hp_nx X Y Z a b c) (hp_ny X Y Z a b c) (hp_nz X Y Z a b c) (hp_lv X Y Z a b c) (wt_i (hp_ab X Y Z a b c n)) (wt_i (hp_be X Y Z a b c n)) (hp_ms X Y Z a b c n) rm (nI n) (wt_i S.2.2.2.2.2.2) (nI S.1) X Y Z S.2.1 S.2.2.1 S.2.2.2.1 S.2.2.2.2.1 S.2.2.2.2.2.1))) ∧ (¬ wt_i (hp_ab X Y Z a b c n) = 0 → wY_tryPlane_280 post (hp_nx X Y Z a b c) (hp_ny X Y Z a b c) (hp_nz X Y Z a b c) (hp_lv X Y Z a b c) (wt_i (hp_ab X Y Z a b c n)) (wt_i (hp_be X Y Z a b c n)) (hp_ms X Y Z a b c n) rm (nI n) (wt_i S.2.2.2.2.2.2) (nI S.1) X Y Z S.2.1 S.2.2.1 S.2.2.2.1 S.2.2.2.2.1 S.2.2.2.2.2.1)) := by
  have sl := wy_sl (rm := rm) (n := n) (X := X) (Y := Y) (Z := Z) S
  have sl1 : wt_i (S.2.2.2.2.2.2 || true) = 1 := wt_1 (Bool.or_true _)
  unfold hp_try at h
  by_cases ab : hp_ab X Y Z a b c n = true
  · by_cases be : hp_be X Y Z a b c n = true
    · rw [if_neg (fun k : hp_be X Y Z a b c n = true ∧ ¬ hp_ab X Y Z a b c n = true => k.2 ab), if_neg (fun k : hp_ab X Y Z a b c n = true ∧ ¬ hp_be X Y Z a b c n = true => k.2 be), ab, Bool.true_or, sl] at h
      exact br_f (wt_n ab) (br_f (wt_n be) (br_f (wt_n ab) (br_f (wt_n ab) (br_f (wt_n be) h))))
    · have k2 : hp_ab X Y Z a b c n = true ∧ ¬ hp_be X Y Z a b c n = true := ⟨ab, be⟩
      rw [if_neg (fun k : hp_be X Y Z a b c n = true ∧ ¬ hp_ab X Y Z a b c n = true => k.2 ab), if_pos k2] at h
      have g := wy_keep (rm := rm) (n := n) (X := X) (Y := Y) (Z := Z) (S := hp_sl S true) hF h
      rw [sl] at g
      exact br_f (wt_n ab) (br_t (wt_0 be) (br_f (wt_n ab) (br_t (wt_0 be) g)))
  · by_cases be : hp_be X Y Z a b c n = true
    · have k1 : hp_be X Y Z a b c n = true ∧ ¬ hp_ab X Y Z a b c n = true := ⟨be, ab⟩
      rw [if_pos k1] at h
      have g := wy_keep (rm := rm) (n := n) (X := X) (Y := Y) (Z := Z) (S := hp_sl S true) (post := fun u => match u with | (r0, r1, r2, r3, r4, r5, r6, r7, r8, r9, r10, r11) => wY_tryPlane_309 post (hp_nx X Y Z a b c) (hp_ny X Y Z a b c) (hp_nz X Y Z a b c) (hp_lv X Y Z a b c) (wt_i (hp_ab X Y Z a b c n)) (wt_i (hp_be X Y Z a b c n)) (hp_ms X Y Z a b c n) r0 r1 r2 r3 r4 r5 r6 r7 r8 r9 r10 r11) hF (br_t (wt_0 ab) h)
      rw [sl] at g
      exact br_t (wt_0 ab) (br_f (wt_n be) (br_f (wt_n be) (br_t (wt_0 ab) g)))
    · have ab' : hp_ab X Y Z a b c n = false := by
        cases hx : hp_ab X Y Z a b c n with
        | false => rfl
        | true => exact absurd hx ab
      have be' : hp_be X Y Z a b c n = false := by
        cases hx : hp_be X Y Z a b c n with
        | false => rfl
        | true => exact absurd hx be
      have sf : hp_sl S false = S := by simp only [hp_sl, Bool.or_false]
      rw [if_neg (fun k : hp_be X Y Z a b c n = true ∧ ¬ hp_ab X Y Z a b c n = true => be k.1), if_neg (fun k : hp_ab X Y Z a b c n = true ∧ ¬ hp_be X Y Z a b c n = true => ab k.1), ab', be', Bool.or_false, sf] at h
      exact br_t (wt_0 ab) (br_t (wt_0 be) (br_t (wt_0 be) (br_t (wt_0 ab) h)))
theorem wy_tpL {post : SY → Prop} {S : hp_T} {a b c : Nat} (hn : n ≤ 14) (hF : S.1 ≤ 24) (h : post (wy_st rm n X Y Z (hp_try X Y Z n a b c S))) : ∀ d p, p + d = n →
    wY_tryPlane_188 post (hp_nx X Y Z a b c) (hp_ny X Y Z a b c) (hp_nz X Y Z a b c) (hp_lv X Y Z a b c) rm (nI n) (wt_i S.2.2.2.2.2.2) (nI S.1) X Y Z S.2.1 S.2.2.1 S.2.2.2.1 S.2.2.2.2.1 S.2.2.2.2.2.1 (d + 1) (wt_i (hp_ab X Y Z a b c p)) (wt_i (hp_be X Y Z a b c p)) (hp_ms X Y Z a b c p) (nI p) := by
  intro d
  induction d with
  | zero =>
    intro p hp
    have e : p = n := by omega
    rw [e]
    exact br_t (nI_le (Nat.le_refl n) (by omega)) (wy_tpE hF h)
  | succ d ih =>
    intro p hp
    have hp' : ¬ nI n ≤ nI p := nI_ge (by omega) (by omega)
    have vi : vp_in (nI p) 14 := vp_in_nI (by omega) (by omega)
    have cl : (nI p).toNatClampNeg = p := nI_clamp (by omega)
    have i1 := ih (p + 1) (by omega)
    refine br_f hp' ⟨vi, vi, vi, ?_⟩
    rw [cl]
    refine nm_r (e' := hp_ht X Y Z a b c p) rfl ?_
    by_cases h1 : hp_ht X Y Z a b c p ≤ 0
    · by_cases h2 : 0 ≤ hp_ht X Y Z a b c p
      · have z : hp_ht X Y Z a b c p = 0 := Int32.le_antisymm h1 h2
        have e1 : wt_i (hp_ab X Y Z a b c (p + 1)) = wt_i (hp_ab X Y Z a b c p) := wt_stay (wt_dn (by rw [z]; decide))
        have e2 : wt_i (hp_be X Y Z a b c (p + 1)) = wt_i (hp_be X Y Z a b c p) := wt_stay (wt_dn (by rw [z]; decide))
        have e3 : hp_ms X Y Z a b c (p + 1) = hp_ms X Y Z a b c p ||| ((1 : Int32) <<< (nI p &&& 31)) := if_pos (decide_eq_true z)
        rw [e1, e2, e3] at i1
        exact br_t h1 (br_t h2 (br_t z (nm_e (nm_r (nI_1 _) i1))))
      · have z : ¬ hp_ht X Y Z a b c p = 0 := fun z => h2 (by rw [z]; decide)
        have e1 : wt_i (hp_ab X Y Z a b c (p + 1)) = wt_i (hp_ab X Y Z a b c p) := wt_stay (wt_dn (Int32.not_lt.mpr h1))
        have e2 : wt_i (hp_be X Y Z a b c (p + 1)) = 1 := wt_step (decide_eq_true (Int32.not_le.mp h2))
        have e3 : hp_ms X Y Z a b c (p + 1) = hp_ms X Y Z a b c p := if_neg (wt_dn z)
        rw [e1, e2, e3] at i1
        exact br_t h1 (br_f h2 (br_f z (nm_r (nI_1 _) i1)))
    · have z : ¬ hp_ht X Y Z a b c p = 0 := fun z => h1 (by rw [z]; decide)
      have h2 : 0 ≤ hp_ht X Y Z a b c p := Int32.le_of_lt (Int32.not_le.mp h1)
      have e1 : wt_i (hp_ab X Y Z a b c (p + 1)) = 1 := wt_step (decide_eq_true (Int32.not_le.mp h1))
      have e2 : wt_i (hp_be X Y Z a b c (p + 1)) = wt_i (hp_be X Y Z a b c p) := wt_stay (wt_dn fun k => h1 (Int32.le_of_lt k))
      have e3 : hp_ms X Y Z a b c (p + 1) = hp_ms X Y Z a b c p := if_neg (wt_dn z)
      rw [e1, e2, e3] at i1
      exact br_f h1 (br_t h2 (br_f z (nm_r (nI_1 _) i1)))
theorem wy_145 {post : SY → Prop} {S : hp_T} {a b c : Nat} (hn : n ≤ 14) (ha : a < n) (hF : S.1 ≤ 24) (h : post (wy_st rm n X Y Z (hp_try X Y Z n a b c S))) : wY_tryPlane_145 post (nI a) (hp_nx X Y Z a b c) (hp_ny X Y Z a b c) (hp_nz X Y Z a b c) rm (nI n) (wt_i S.2.2.2.2.2.2) (nI S.1) X Y Z S.2.1 S.2.2.1 S.2.2.2.1 S.2.2.2.2.1 S.2.2.2.2.2.1 := by
  have va : vp_in (nI a) 14 := vp_in_nI (by omega) (by omega)
  have la : (nI a).toNatClampNeg = a := nI_clamp (by omega)
  unfold wY_tryPlane_145
  rw [la]
  exact ⟨va, va, va, nm_r (e' := hp_lv X Y Z a b c) rfl ⟨n + 1, wy_tpL hn hF h n 0 (by omega)⟩⟩
theorem wy_flat {a b c : Nat} (hx : hp_nx X Y Z a b c = 0) (hy : hp_ny X Y Z a b c = 0) (hz : hp_nz X Y Z a b c = 0) (S : hp_T) : hp_try X Y Z n a b c S = S := by
  have z : ∀ p, hp_ht X Y Z a b c p = 0 := by
    intro p
    unfold hp_ht hp_lv
    rw [hx, hy, hz]
    simp
  have ab : ¬ hp_ab X Y Z a b c n = true := by
    unfold hp_ab
    rw [hp_any_t]
    intro ⟨i, _, h⟩
    have h' := of_decide_eq_true h
    rw [z i] at h'
    exact absurd h' (by decide)
  have be : ¬ hp_be X Y Z a b c n = true := by
    unfold hp_be
    rw [hp_any_t]
    intro ⟨i, _, h⟩
    have h' := of_decide_eq_true h
    rw [z i] at h'
    exact absurd h' (by decide)
  have ab' : hp_ab X Y Z a b c n = false := by
    cases hx : hp_ab X Y Z a b c n with
    | false => rfl
    | true => exact absurd hx ab
  have be' : hp_be X Y Z a b c n = false := by
    cases hx : hp_be X Y Z a b c n with
    | false => rfl
    | true => exact absurd hx be
  unfold hp_try
  rw [if_neg (fun k : hp_be X Y Z a b c n = true ∧ ¬ hp_ab X Y Z a b c n = true => be k.1), if_neg (fun k : hp_ab X Y Z a b c n = true ∧ ¬ hp_be X Y Z a b c n = true => ab k.1), ab', be', Bool.or_false]
  simp only [hp_sl, Bool.or_false]
theorem wy_try {post : SY → Prop} {S : hp_T} {a b c : Nat} (hn : n ≤ 14) (ha : a < n) (hb : b < n) (hc : c < n) (hF : S.1 ≤ 24) (h : post (wy_st rm n X Y Z (hp_try X Y Z n a b c S))) : wpY_tryPlane post (wy_st rm n X Y Z S) (nI a) (nI b) (nI c) := by
  have va : vp_in (nI a) 14 := vp_in_nI (by omega) (by omega)
  have vb : vp_in (nI b) 14 := vp_in_nI (by omega) (by omega)
  have vc : vp_in (nI c) 14 := vp_in_nI (by omega) (by omega)
  have la : (nI a).toNatClampNeg = a := nI_clamp (by omega)
  have lb : (nI b).toNatClampNeg = b := nI_clamp (by omega)
  have lc : (nI c).toNatClampNeg = c := nI_clamp (by omega)
  have go := wy_145 hn ha hF h
  unfold wpY_tryPlane
  dsimp only
  rw [la, lb, lc]
  refine ⟨vb, va, nm_e ⟨vb, va, nm_e ⟨vb, va, nm_e ⟨vc, va, nm_e ⟨vc, va, nm_e ⟨vc, va, nm_e ?_⟩⟩⟩⟩⟩⟩
  refine nm_r (e' := hp_nx X Y Z a b c) rfl (nm_r (e' := hp_ny X Y Z a b c) rfl (nm_r (e' := hp_nz X Y Z a b c) rfl ?_))
  by_cases hx : hp_nx X Y Z a b c = 0
  · by_cases hy : hp_ny X Y Z a b c = 0
    · by_cases hz : hp_nz X Y Z a b c = 0
      · rw [wy_flat hx hy hz S] at h
        exact br_t hx (br_t hy (br_t hz h))
      · exact br_t hx (br_t hy (br_f hz go))
    · exact br_t hx (br_f hy go)
  · exact br_f hx go
theorem wy_t4 (hn : n ≤ 14) (R : hi_rg X Y Z n) {post : SY → Prop} {a b : Nat} (hab : a < b) (hb : b < n) : ∀ d c, c + d = n → b < c → ∀ S : hp_T, hi_I (hi_P X Y Z) n S →
    post (wy_st rm n X Y Z (hp_fold (fun c S => hp_try X Y Z n a b c S) d c S)) →
    wY_triples_4 post (nI a) (nI b) (d + 1) (nI c) rm (nI n) (wt_i S.2.2.2.2.2.2) (nI S.1) X Y Z S.2.1 S.2.2.1 S.2.2.2.1 S.2.2.2.2.1 S.2.2.2.2.2.1 := by
  intro d
  induction d with
  | zero =>
    intro c hc hbc S I h
    exact br_t (nI_le (by omega) (by omega)) h
  | succ d ih =>
    intro c hc hbc S I h
    have I2 := hi_try hn R a b c S hab hbc (by omega) I
    refine br_f (nI_ge (by omega) (by omega)) (wy_try hn (by omega) hb (by omega) (hl_cap hn R I) ?_)
    exact nm_r (nI_1 _) (ih (c + 1) (by omega) (by omega) _ I2 h)
theorem wy_trp (hn : n ≤ 14) (R : hi_rg X Y Z n) {post : SY → Prop} {a b : Nat} (hab : a < b) (hb : b < n) {S : hp_T} (I : hi_I (hi_P X Y Z) n S) (h : post (wy_st rm n X Y Z (hp_c X Y Z n a b S))) : wpY_triples post (wy_st rm n X Y Z S) (nI a) (nI b) :=
  nm_r (nI_1 _) ⟨n - (b + 1) + 1, wy_t4 hn R hab hb (n - (b + 1)) (b + 1) (by omega) (by omega) S I h⟩
theorem wy_g24 (hn : n ≤ 14) (R : hi_rg X Y Z n) {post : SY → Prop} {J12 : Int32 → Int32 → Int32 → Int32 → Int32 → (Nat → Int32) → (Nat → Int32) → (Nat → Int32) → (Nat → Int32) → (Nat → Int32) → (Nat → Int32) → (Nat → Int32) → (Nat → Int32) → Prop} {a : Nat} (ha : a < n) : ∀ d b, b + d = n → a < b → ∀ S : hp_T, hi_I (hi_P X Y Z) n S →
    J12 (nI (a + 1)) rm (nI n) (wt_i (hp_fold (fun b S => hp_c X Y Z n a b S) d b S).2.2.2.2.2.2) (nI (hp_fold (fun b S => hp_c X Y Z n a b S) d b S).1) X Y Z (hp_fold (fun b S => hp_c X Y Z n a b S) d b S).2.1 (hp_fold (fun b S => hp_c X Y Z n a b S) d b S).2.2.1 (hp_fold (fun b S => hp_c X Y Z n a b S) d b S).2.2.2.1 (hp_fold (fun b S => hp_c X Y Z n a b S) d b S).2.2.2.2.1 (hp_fold (fun b S => hp_c X Y Z n a b S) d b S).2.2.2.2.2.1 →
    wY_gather_24 post J12 (nI a) (d + 1) (nI b) rm (nI n) (wt_i S.2.2.2.2.2.2) (nI S.1) X Y Z S.2.1 S.2.2.1 S.2.2.2.1 S.2.2.2.2.1 S.2.2.2.2.2.1 := by
  intro d
  induction d with
  | zero =>
    intro b hb hab S I h
    exact br_t (nI_le (by omega) (by omega)) (nm_r (nI_1 _) h)
  | succ d ih =>
    intro b hb hab S I h
    refine br_f (nI_ge (by omega) (by omega)) (wy_trp hn R hab (by omega) I ?_)
    exact nm_r (nI_1 _) (ih (b + 1) (by omega) (by omega) (hp_c X Y Z n a b S) (wt_Ic hn R hab (by omega) I) h)
theorem wy_g12 (hn : n ≤ 14) (R : hi_rg X Y Z n) {post : SY → Prop} : ∀ d a, a + d = n → ∀ S : hp_T, hi_I (hi_P X Y Z) n S →
    post (wy_st rm n X Y Z (hp_fold (fun a S => hp_b X Y Z n a S) d a S)) →
    wY_gather_12 post (d + 1) (nI a) rm (nI n) (wt_i S.2.2.2.2.2.2) (nI S.1) X Y Z S.2.1 S.2.2.1 S.2.2.2.1 S.2.2.2.2.1 S.2.2.2.2.2.1 := by
  intro d
  induction d with
  | zero =>
    intro a ha S I h
    exact br_t (nI_le (by omega) (by omega)) h
  | succ d ih =>
    intro a ha S I h
    refine br_f (nI_ge (by omega) (by omega)) (nm_r (nI_1 _) ⟨n - (a + 1) + 1, ?_⟩)
    exact wy_g24 hn R (by omega) (n - (a + 1)) (a + 1) (by omega) (by omega) S I (ih (a + 1) (by omega) (hp_b X Y Z n a S) (wt_Ib hn R (by omega) I) h)
theorem wy_find (hn : n ≤ 14) (R : hi_rg X Y Z n) {post : SY → Prop} {so F : Int32} {A B C D M : Nat → Int32} (h : post (wy_st rm n X Y Z (hp_a X Y Z n (0, A, B, C, D, M, false)))) : wpY_gather post (rm, nI n, so, F, X, Y, Z, A, B, C, D, M) :=
  ⟨n + 1, wy_g12 hn R n 0 (by omega) (0, A, B, C, D, M, false) (hl_ini _ _ _ _ _ _ _) h⟩
