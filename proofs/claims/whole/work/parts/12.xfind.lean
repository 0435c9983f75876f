/-! the component's search for facet planes is the fold -/
variable {rm : Int32} {n : Nat} {X Y Z : Nat → Int32}
def wt_i (b : Bool) : Int32 := if b = true then 1 else 0
theorem wt_1 {b : Bool} (h : b = true) : wt_i b = 1 := if_pos h
theorem wt_0 {b : Bool} (h : ¬ b = true) : wt_i b = 0 := if_neg h
theorem wt_n {b : Bool} (h : b = true) : ¬ wt_i b = 0 := by rw [wt_1 h]; decide
abbrev wx_st (rm : Int32) (n : Nat) (X Y Z : Nat → Int32) (S : hp_T) : SX := (rm, nI n, nI S.1, X, Y, Z, S.2.1, S.2.2.1, S.2.2.2.1, S.2.2.2.2.1, S.2.2.2.2.2.1)
theorem wx_knL1 {post : Int32 → Prop} {F : Nat} {A B C D M : Nat → Int32} {k : Int32} (hF : F ≤ 24) (h : post 1) : ∀ d j, j + d = F → (∃ f, j ≤ f ∧ f < F ∧ M f = k) → wX_isKnownFacet_2 post k rm (nI n) (nI F) X Y Z A B C D M (d + 1) (nI j) := by
  intro d
  induction d with
  | zero => intro j hj ⟨f, h1, h2, _⟩; exact absurd h1 (by omega)
  | succ d ih =>
    intro j hj ⟨f, h1, h2, h3⟩
    have hj' : ¬ nI F ≤ nI j := nI_ge (by omega) (by omega)
    have vi : vp_in (nI j) 24 := vp_in_nI (by omega) (by omega)
    have cl : (nI j).toNatClampNeg = j := nI_clamp (by omega)
    by_cases e : M j = k
    · exact br_f hj' ⟨vi, br_t (by rw [cl]; exact e) h⟩
    · refine br_f hj' ⟨vi, br_f (by rw [cl]; exact e) (nm_r (nI_1 _) (ih (j + 1) (by omega) ⟨f, ?_, h2, h3⟩))⟩
      by_cases e2 : f = j
      · rw [e2] at h3; exact absurd h3 e
      · omega
theorem wx_knL0 {post : Int32 → Prop} {F : Nat} {A B C D M : Nat → Int32} {k : Int32} (hF : F ≤ 24) (h : post 0) (hk : ∀ f, f < F → M f ≠ k) : ∀ d j, j + d = F → wX_isKnownFacet_2 post k rm (nI n) (nI F) X Y Z A B C D M (d + 1) (nI j) := by
  intro d
  induction d with
  | zero =>
    intro j hj
    exact br_t (nI_le (by omega) (by omega)) h
  | succ d ih =>
    intro j hj
    have hj' : ¬ nI F ≤ nI j := nI_ge (by omega) (by omega)
    have vi : vp_in (nI j) 24 := vp_in_nI (by omega) (by omega)
    have cl : (nI j).toNatClampNeg = j := nI_clamp (by omega)
    exact br_f hj' ⟨vi, br_f (by rw [cl]; exact hk j (by omega)) (nm_r (nI_1 _) (ih (j + 1) (by omega)))⟩
theorem wt_kn {M : Nat → Int32} {F : Nat} {k : Int32} (h : hp_kn M F k = true) : ∃ f, 0 ≤ f ∧ f < F ∧ M f = k := by
  unfold hp_kn at h
  rw [hp_any_t] at h
  obtain ⟨f, hf, e⟩ := h
  exact ⟨f, Nat.zero_le _, hf, of_decide_eq_true e⟩
theorem wt_nk {M : Nat → Int32} {F : Nat} {k : Int32} (h : ¬ hp_kn M F k = true) : ∀ f, f < F → M f ≠ k := by
  intro f hf e
  apply h
  unfold hp_kn
  rw [hp_any_t]
  exact ⟨f, hf, decide_eq_true e⟩
theorem wx_keep {post : SX → Prop} {S : hp_T} {nx ny nz lv mk : Int32} (hF : S.1 ≤ 24) (cap : (hp_keep S nx ny nz lv mk).1 ≤ 24) (h : post (wx_st rm n X Y Z (hp_keep S nx ny nz lv mk))) : wpX_keepFacet post (wx_st rm n X Y Z S) nx ny nz lv mk := by
  unfold hp_keep at h cap
  by_cases kn : hp_kn S.2.2.2.2.2.1 S.1 mk = true
  · rw [if_pos kn] at h
    exact ⟨S.1 + 1, wx_knL1 hF (br_f (by decide) h) S.1 0 (by omega) (wt_kn kn)⟩
  · rw [if_neg kn] at h cap
    have c : S.1 + 1 ≤ 24 := cap
    have vi : vp_in (nI S.1) 24 := vp_in_nI (by omega) (by omega)
    have cl : (nI S.1).toNatClampNeg = S.1 := nI_clamp (by omega)
    have lt : nI S.1 < 24 := nI_lt (b := 24) (by omega) (by omega)
    refine ⟨S.1 + 1, wx_knL0 hF (br_t rfl (br_t lt ⟨vi, ?_⟩)) (wt_nk kn) S.1 0 (by omega)⟩
    rw [cl]
    exact nm_e ⟨vi, nm_e ⟨vi, nm_e ⟨vi, nm_e ⟨vi, nm_e (nm_r (nI_1 _) h)⟩⟩⟩⟩
theorem wx_tp2 {post : SX → Prop} {S : hp_T} {a b c : Nat} (hF : S.1 ≤ 24) (cap : (hp_try X Y Z n a b c S).1 ≤ 24) (h : post (wx_st rm n X Y Z (hp_try X Y Z n a b c S))) (k1 : ¬ (hp_be X Y Z a b c n = true ∧ ¬ hp_ab X Y Z a b c n = true)) :
    wX_tryPlane_282 post (hp_nx X Y Z a b c) (hp_ny X Y Z a b c) (hp_nz X Y Z a b c) (hp_lv X Y Z a b c) (wt_i (hp_ab X Y Z a b c n)) (wt_i (hp_be X Y Z a b c n)) (hp_ms X Y Z a b c n) rm (nI n) (nI S.1) X Y Z S.2.1 S.2.2.1 S.2.2.2.1 S.2.2.2.2.1 S.2.2.2.2.2.1 := by
  unfold hp_try at h cap
  rw [if_neg k1] at h cap
  by_cases ab : hp_ab X Y Z a b c n = true
  · by_cases be : hp_be X Y Z a b c n = true
    · rw [if_neg (fun k : hp_ab X Y Z a b c n = true ∧ ¬ hp_be X Y Z a b c n = true => k.2 be)] at h
      exact br_f (wt_n ab) (br_f (wt_n be) h)
    · have k2 : hp_ab X Y Z a b c n = true ∧ ¬ hp_be X Y Z a b c n = true := ⟨ab, be⟩
      rw [if_pos k2] at h cap
      exact br_f (wt_n ab) (br_t (wt_0 be) (wx_keep (S := hp_sl S true) hF cap h))
  · rw [if_neg (fun k : hp_ab X Y Z a b c n = true ∧ ¬ hp_be X Y Z a b c n = true => ab k.1)] at h
    exact br_t (wt_0 ab) h
theorem wt_step {p : Nat → Bool} {k : Nat} (h : p k = true) : wt_i (hp_any p (k + 1)) = 1 := wt_1 (by simp only [hp_any, h, Bool.or_true])
theorem wt_stay {p : Nat → Bool} {k : Nat} (h : ¬ p k = true) : wt_i (hp_any p (k + 1)) = wt_i (hp_any p k) := by
  have h' : p k = false := by
    cases hp : p k with
    | false => rfl
    | true => exact absurd hp h
  simp only [hp_any, h', Bool.or_false]
theorem wt_dn {p : Prop} [Decidable p] (h : ¬ p) : ¬ decide p = true := fun k => h (of_decide_eq_true k)
theorem wx_tpL {post : SX → Prop} {S : hp_T} {a b c : Nat} (hn : n ≤ 14) (hF : S.1 ≤ 24) (cap : (hp_try X Y Z n a b c S).1 ≤ 24) (h : post (wx_st rm n X Y Z (hp_try X Y Z n a b c S))) : ∀ d p, p + d = n →
    wX_tryPlane_172 post (hp_nx X Y Z a b c) (hp_ny X Y Z a b c) (hp_nz X Y Z a b c) (hp_lv X Y Z a b c) rm (nI n) (nI S.1) X Y Z S.2.1 S.2.2.1 S.2.2.2.1 S.2.2.2.2.1 S.2.2.2.2.2.1 (d + 1) (wt_i (hp_ab X Y Z a b c p)) (wt_i (hp_be X Y Z a b c p)) (hp_ms X Y Z a b c p) (nI p) := by
  intro d
  induction d with
  | zero =>
    intro p hp
    have e : p = n := by omega
    rw [e]
    refine br_t (nI_le (Nat.le_refl n) (by omega)) ?_
    by_cases be : hp_be X Y Z a b c n = true
    · by_cases ab : hp_ab X Y Z a b c n = true
      · exact br_f (wt_n be) (br_f (wt_n ab) (wx_tp2 hF cap h fun k => k.2 ab))
      · have k1 : hp_be X Y Z a b c n = true ∧ ¬ hp_ab X Y Z a b c n = true := ⟨be, ab⟩
        unfold hp_try at h cap
        rw [if_pos k1] at h cap
        exact br_f (wt_n be) (br_t (wt_0 ab) (wx_keep (S := hp_sl S true) hF cap h))
    · exact br_t (wt_0 be) (wx_tp2 hF cap h fun k => be k.1)
  | succ d ih =>
    intro p hp
    have hp' : ¬ nI n ≤ nI p := nI_ge (by omega) (by omega)
    have vi : vp_in (nI p) 14 := vp_in_nI (by omega) (by omega)
    have cl : (nI p).toNatClampNeg = p := nI_clamp (by omega)
    have i1 := ih (p + 1) (by omega)
    refine br_f hp' ⟨vi, vi, vi, ?_⟩
    rw [cl]
    refine nm_r (e' := hp_ht X Y Z a b c p) rfl ?_
    by_cases h1 : hp_ht X Y Z a b c p ≤ 0
    · by_cases h2 : 0 ≤ hp_ht X Y Z a b c p
      · have z : hp_ht X Y Z a b c p = 0 := Int32.le_antisymm h1 h2
        have e1 : wt_i (hp_ab X Y Z a b c (p + 1)) = wt_i (hp_ab X Y Z a b c p) := wt_stay (wt_dn (by rw [z]; decide))
        have e2 : wt_i (hp_be X Y Z a b c (p + 1)) = wt_i (hp_be X Y Z a b c p) := wt_stay (wt_dn (by rw [z]; decide))
        have e3 : hp_ms X Y Z a b c (p + 1) = hp_ms X Y Z a b c p ||| ((1 : Int32) <<< (nI p &&& 31)) := if_pos (decide_eq_true z)
        rw [e1, e2, e3] at i1
        exact br_t h1 (br_t h2 (nm_e (nm_r (nI_1 _) i1)))
      · have e1 : wt_i (hp_ab X Y Z a b c (p + 1)) = wt_i (hp_ab X Y Z a b c p) := wt_stay (wt_dn (Int32.not_lt.mpr h1))
        have e2 : wt_i (hp_be X Y Z a b c (p + 1)) = 1 := wt_step (decide_eq_true (Int32.not_le.mp h2))
        have e3 : hp_ms X Y Z a b c (p + 1) = hp_ms X Y Z a b c p := if_neg (wt_dn fun z => h2 (by rw [z]; decide))
        rw [e1, e2, e3] at i1
        exact br_t h1 (br_f h2 (nm_r (nI_1 _) i1))
    · have e1 : wt_i (hp_ab X Y Z a b c (p + 1)) = 1 := wt_step (decide_eq_true (Int32.not_le.mp h1))
      have e2 : wt_i (hp_be X Y Z a b c (p + 1)) = wt_i (hp_be X Y Z a b c p) := wt_stay (wt_dn fun k => h1 (Int32.le_of_lt k))
      have e3 : hp_ms X Y Z a b c (p + 1) = hp_ms X Y Z a b c p := if_neg (wt_dn fun z => h1 (by rw [z]; decide))
      rw [e1, e2, e3] at i1
      exact br_f h1 (nm_r (nI_1 _) i1)
theorem wx_try {post : SX → Prop} {S : hp_T} {a b c : Nat} (hn : n ≤ 14) (ha : a < n) (hb : b < n) (hc : c < n) (hF : S.1 ≤ 24) (cap : (hp_try X Y Z n a b c S).1 ≤ 24) (h : post (wx_st rm n X Y Z (hp_try X Y Z n a b c S))) : wpX_tryPlane post (wx_st rm n X Y Z S) (nI a) (nI b) (nI c) := by
  have va : vp_in (nI a) 14 := vp_in_nI (by omega) (by omega)
  have vb : vp_in (nI b) 14 := vp_in_nI (by omega) (by omega)
  have vc : vp_in (nI c) 14 := vp_in_nI (by omega) (by omega)
  have la : (nI a).toNatClampNeg = a := nI_clamp (by omega)
  have lb : (nI b).toNatClampNeg = b := nI_clamp (by omega)
  have lc : (nI c).toNatClampNeg = c := nI_clamp (by omega)
  unfold wpX_tryPlane
  dsimp only
  rw [la, lb, lc]
  refine ⟨vb, va, nm_e ⟨vb, va, nm_e ⟨vb, va, nm_e ⟨vc, va, nm_e ⟨vc, va, nm_e ⟨vc, va, nm_e ?_⟩⟩⟩⟩⟩⟩
  refine nm_r (e' := hp_nx X Y Z a b c) rfl (nm_r (e' := hp_ny X Y Z a b c) rfl (nm_r (e' := hp_nz X Y Z a b c) rfl ⟨va, va, va, nm_r (e' := hp_lv X Y Z a b c) rfl ⟨n + 1, ?_⟩⟩))
  exact wx_tpL hn hF cap h n 0 (by omega)
theorem wx_f31 (hn : n ≤ 14) (R : hi_rg X Y Z n) {post : SX → Prop} {J7 J19 : Int32 → Int32 → Int32 → Int32 → (Nat → Int32) → (Nat → Int32) → (Nat → Int32) → (Nat → Int32) → (Nat → Int32) → (Nat → Int32) → (Nat → Int32) → (Nat → Int32) → Prop} {a b : Nat} (hab : a < b) (hb : b < n) : ∀ d c, c + d = n → b < c → ∀ S : hp_T, hi_I (hi_P X Y Z) n S →
    J19 (nI (b + 1)) rm (nI n) (nI (hp_fold (fun c S => hp_try X Y Z n a b c S) d c S).1) X Y Z (hp_fold (fun c S => hp_try X Y Z n a b c S) d c S).2.1 (hp_fold (fun c S => hp_try X Y Z n a b c S) d c S).2.2.1 (hp_fold (fun c S => hp_try X Y Z n a b c S) d c S).2.2.2.1 (hp_fold (fun c S => hp_try X Y Z n a b c S) d c S).2.2.2.2.1 (hp_fold (fun c S => hp_try X Y Z n a b c S) d c S).2.2.2.2.2.1 →
    wX_findFacets_31 post J7 J19 (nI a) (nI b) (d + 1) (nI c) rm (nI n) (nI S.1) X Y Z S.2.1 S.2.2.1 S.2.2.2.1 S.2.2.2.2.1 S.2.2.2.2.2.1 := by
  intro d
  induction d with
  | zero =>
    intro c hc hbc S I h
    exact br_t (nI_le (by omega) (by omega)) (nm_r (nI_1 _) h)
  | succ d ih =>
    intro c hc hbc S I h
    have I2 := hi_try hn R a b c S hab hbc (by omega) I
    refine br_f (nI_ge (by omega) (by omega)) (wx_try hn (by omega) hb (by omega) (hl_cap hn R I) (hl_cap hn R I2) ?_)
    exact nm_r (nI_1 _) (ih (c + 1) (by omega) (by omega) _ I2 h)
theorem wt_Ic (hn : n ≤ 14) (R : hi_rg X Y Z n) {a b : Nat} (hab : a < b) (hb : b < n) {S : hp_T} (I : hi_I (hi_P X Y Z) n S) : hi_I (hi_P X Y Z) n (hp_c X Y Z n a b S) :=
  hp_fold_inv (I := hi_I (hi_P X Y Z) n) (lo := b + 1) (hi := n) (fun c S h1 h2 I => hi_try hn R a b c S hab (by omega) h2 I) _ _ S (by omega) (by omega) I
theorem wx_f19 (hn : n ≤ 14) (R : hi_rg X Y Z n) {post : SX → Prop} {J7 : Int32 → Int32 → Int32 → Int32 → (Nat → Int32) → (Nat → Int32) → (Nat → Int32) → (Nat → Int32) → (Nat → Int32) → (Nat → Int32) → (Nat → Int32) → (Nat → Int32) → Prop} {a : Nat} (ha : a < n) : ∀ d b, b + d = n → a < b → ∀ S : hp_T, hi_I (hi_P X Y Z) n S →
    J7 (nI (a + 1)) rm (nI n) (nI (hp_fold (fun b S => hp_c X Y Z n a b S) d b S).1) X Y Z (hp_fold (fun b S => hp_c X Y Z n a b S) d b S).2.1 (hp_fold (fun b S => hp_c X Y Z n a b S) d b S).2.2.1 (hp_fold (fun b S => hp_c X Y Z n a b S) d b S).2.2.2.1 (hp_fold (fun b S => hp_c X Y Z n a b S) d b S).2.2.2.2.1 (hp_fold (fun b S => hp_c X Y Z n a b S) d b S).2.2.2.2.2.1 →
    wX_findFacets_19 post J7 (nI a) (d + 1) (nI b) rm (nI n) (nI S.1) X Y Z S.2.1 S.2.2.1 S.2.2.2.1 S.2.2.2.2.1 S.2.2.2.2.2.1 := by
  intro d
  induction d with
  | zero =>
    intro b hb hab S I h
    exact br_t (nI_le (by omega) (by omega)) (nm_r (nI_1 _) h)
  | succ d ih =>
    intro b hb hab S I h
    refine br_f (nI_ge (by omega) (by omega)) (nm_r (nI_1 _) ⟨n - (b + 1) + 1, ?_⟩)
    exact wx_f31 hn R hab (by omega) (n - (b + 1)) (b + 1) (by omega) (by omega) S I (ih (b + 1) (by omega) (by omega) (hp_c X Y Z n a b S) (wt_Ic hn R hab (by omega) I) h)
theorem wt_Ib (hn : n ≤ 14) (R : hi_rg X Y Z n) {a : Nat} (ha : a < n) {S : hp_T} (I : hi_I (hi_P X Y Z) n S) : hi_I (hi_P X Y Z) n (hp_b X Y Z n a S) :=
  hp_fold_inv (I := hi_I (hi_P X Y Z) n) (lo := a + 1) (hi := n) (fun b S h1 h2 I => wt_Ic hn R (by omega) h2 I) _ _ S (by omega) (by omega) I
theorem wx_f7 (hn : n ≤ 14) (R : hi_rg X Y Z n) {post : SX → Prop} : ∀ d a, a + d = n → ∀ S : hp_T, hi_I (hi_P X Y Z) n S →
    post (wx_st rm n X Y Z (hp_fold (fun a S => hp_b X Y Z n a S) d a S)) →
    wX_findFacets_7 post (d + 1) (nI a) rm (nI n) (nI S.1) X Y Z S.2.1 S.2.2.1 S.2.2.2.1 S.2.2.2.2.1 S.2.2.2.2.2.1 := by
  intro d
  induction d with
  | zero =>
    intro a ha S I h
    exact br_t (nI_le (by omega) (by omega)) h
  | succ d ih =>
    intro a ha S I h
    refine br_f (nI_ge (by omega) (by omega)) (nm_r (nI_1 _) ⟨n - (a + 1) + 1, ?_⟩)
    exact wx_f19 hn R (by omega) (n - (a + 1)) (a + 1) (by omega) (by omega) S I (ih (a + 1) (by omega) (hp_b X Y Z n a S) (wt_Ib hn R (by omega) I) h)
theorem wx_find (hn : n ≤ 14) (R : hi_rg X Y Z n) {post : SX → Prop} {F : Int32} {A B C D M : Nat → Int32} (h : post (wx_st rm n X Y Z (hp_a X Y Z n (0, A, B, C, D, M, false)))) : wpX_findFacets post (rm, nI n, F, X, Y, Z, A, B, C, D, M) :=
  ⟨n + 1, wx_f7 hn R n 0 (by omega) (0, A, B, C, D, M, false) (hl_ini _ _ _ _ _ _ _) h⟩
