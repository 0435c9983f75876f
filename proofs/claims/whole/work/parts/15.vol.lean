/-! the volume, both sides -/
variable {rm so : Int32} {n F : Nat} {X Y Z A B C D M : Nat → Int32}
theorem wv_det (X Y Z : Nat → Int32) (h a b : Nat) : (X h - X 0) * ((Y a - Y 0) * (Z b - Z 0) - (Z a - Z 0) * (Y b - Y 0)) + (Y h - Y 0) * ((Z a - Z 0) * (X b - X 0) - (X a - X 0) * (Z b - Z 0)) + (Z h - Z 0) * ((X a - X 0) * (Y b - Y 0) - (Y a - Y 0) * (X b - X 0)) = Int32.ofInt (hv_T (hi_P X Y Z 0) (hi_P X Y Z h) (hi_P X Y Z a) (hi_P X Y Z b)) := by
  simp only [hv_T, gv_d, gv_x, gv_s, hi_P, Int32.ofInt_sub, Int32.ofInt_add, Int32.ofInt_mul, Int32.ofInt_toInt]
theorem wv_in {n : Nat} (R : hi_rg X Y Z n) {h a b : Nat} (hh : h < n) (ha : a < n) (hb : b < n) : -10368000 ≤ hv_T (hi_P X Y Z 0) (hi_P X Y Z h) (hi_P X Y Z a) (hi_P X Y Z b) ∧ hv_T (hi_P X Y Z 0) (hi_P X Y Z h) (hi_P X Y Z a) (hi_P X Y Z b) ≤ 10368000 := by
  have r0 := R 0 (by omega)
  unfold hv_T
  rw [gv_comm]
  exact hi_in_d (hi_in_x (hi_in_s (R a ha) r0) (hi_in_s (R b hb) r0)) (hi_in_s (R h hh) r0)
theorem wv_abs {P : Int32 → Prop} {t : Int} (h1 : -10368000 ≤ t) (h2 : t ≤ 10368000) (h : P (Int32.ofInt (hv_abs t))) : (0 ≤ Int32.ofInt t → P (Int32.ofInt t)) ∧ (¬ 0 ≤ Int32.ofInt t → P (- Int32.ofInt t)) := by
  have k := hi_neg (h := t) (by omega) (by omega)
  by_cases e : t < 0
  · refine br_f (Int32.not_le.mpr (k.mpr e)) ?_
    rw [Int32.neg_ofInt, ← hv_abs_p (by omega)]
    exact h
  · refine br_t (Int32.not_lt.mp fun l => e (k.mp l)) ?_
    rw [hv_abs_n (by omega)] at h
    exact h
theorem wx_six {post : Int32 → Prop} (hn : n ≤ 14) (R : hi_rg X Y Z n) {h a b : Nat} (hh : h < n) (ha : a < n) (hb : b < n) (hp : post (Int32.ofInt (hv_abs (hv_T (hi_P X Y Z 0) (hi_P X Y Z h) (hi_P X Y Z a) (hi_P X Y Z b))))) : wpX_sixTetrahedron post (rm, nI n, nI F, X, Y, Z, A, B, C, D, M) (nI h) (nI a) (nI b) := by
  have vh : vp_in (nI h) 14 := vp_in_nI (by omega) (by omega)
  have va : vp_in (nI a) 14 := vp_in_nI (by omega) (by omega)
  have vb : vp_in (nI b) 14 := vp_in_nI (by omega) (by omega)
  have lh : (nI h).toNatClampNeg = h := nI_clamp (by omega)
  have la : (nI a).toNatClampNeg = a := nI_clamp (by omega)
  have lb : (nI b).toNatClampNeg = b := nI_clamp (by omega)
  unfold wpX_sixTetrahedron
  dsimp only
  rw [lh, la, lb]
  have k := wv_in R hh ha hb
  exact ⟨vh, nm_e ⟨vh, nm_e ⟨vh, nm_e ⟨va, nm_e ⟨va, nm_e ⟨va, nm_e ⟨vb, nm_e ⟨vb, nm_e ⟨vb, nm_e (nm_r (wv_det X Y Z h a b) (wv_abs k.1 k.2 hp))⟩⟩⟩⟩⟩⟩⟩⟩⟩
theorem wy_six {post : Int32 → Prop} (hn : n ≤ 14) (R : hi_rg X Y Z n) {h a b : Nat} (hh : h < n) (ha : a < n) (hb : b < n) (hp : post (Int32.ofInt (hv_abs (hv_T (hi_P X Y Z 0) (hi_P X Y Z h) (hi_P X Y Z a) (hi_P X Y Z b))))) : wpY_sixth post (rm, nI n, so, nI F, X, Y, Z, A, B, C, D, M) (nI h) (nI a) (nI b) := by
  have vh : vp_in (nI h) 14 := vp_in_nI (by omega) (by omega)
  have va : vp_in (nI a) 14 := vp_in_nI (by omega) (by omega)
  have vb : vp_in (nI b) 14 := vp_in_nI (by omega) (by omega)
  have lh : (nI h).toNatClampNeg = h := nI_clamp (by omega)
  have la : (nI a).toNatClampNeg = a := nI_clamp (by omega)
  have lb : (nI b).toNatClampNeg = b := nI_clamp (by omega)
  unfold wpY_sixth
  dsimp only
  rw [lh, la, lb]
  have k := wv_in R hh ha hb
  exact ⟨vh, nm_e ⟨vh, nm_e ⟨vh, nm_e ⟨va, nm_e ⟨va, nm_e ⟨va, nm_e ⟨vb, nm_e ⟨vb, nm_e ⟨vb, nm_e (nm_r (wv_det X Y Z h a b) (wv_abs k.1 k.2 hp))⟩⟩⟩⟩⟩⟩⟩⟩⟩
theorem wv_plus (s u t : Int) : Int32.ofInt (s + u) + Int32.ofInt t = Int32.ofInt (s + (u + t)) := by
  rw [← Int32.ofInt_add, Int.add_assoc]
theorem wv_t0 {P : Nat → gv_V} {F : Nat} {B : Nat → Nat → Bool} {f h a b : Nat} (s : Int) (g : Nat → Int) (e : ¬ (a < b ∧ B f a = true ∧ B f b = true ∧ he_e F B a b = true)) : s + (hs_i g b + hv_t P F B f h a b) = s + hs_i g b := by
  have : hv_t P F B f h a b = 0 := if_neg e
  rw [this]; omega
theorem wx_u26 {post : Int32 → Prop} {J : Int32 → Int32 → Prop} (hn : n ≤ 14) (R : hi_rg X Y Z n) (hF : F ≤ 24) {f h a : Nat} (hf : f < F) (hh : h < n) (ha : a < n) (s : Int) (hJ : J (Int32.ofInt (s + hs_i (fun b => hv_t (hi_P X Y Z) F (hi_B M) f h a b) n)) (nI (a + 1))) :
    ∀ d b, b + d = n → a < b → wX_sixVolumeUnder_26 post J (nI f) (nI h) (nI a) rm (nI n) (nI F) X Y Z A B C D M (d + 1) (Int32.ofInt (s + hs_i (fun b => hv_t (hi_P X Y Z) F (hi_B M) f h a b) b)) (nI b) := by
  intro d
  induction d with
  | zero =>
    intro b hb hab
    have e : b = n := by omega
    rw [e]
    exact br_t (nI_le (Nat.le_refl n) (by omega)) (nm_r (nI_1 _) hJ)
  | succ d ih =>
    intro b hb hab
    have hb' : ¬ nI n ≤ nI b := nI_ge (by omega) (by omega)
    have i1 := ih (b + 1) (by omega) (by omega)
    simp only [hs_i] at i1
    by_cases ea : hi_B M f a = true
    · by_cases eb : hi_B M f b = true
      · by_cases ee : he_e F (hi_B M) a b = true
        · have t : hv_t (hi_P X Y Z) F (hi_B M) f h a b = hv_abs (hv_T (hi_P X Y Z 0) (hi_P X Y Z h) (hi_P X Y Z a) (hi_P X Y Z b)) := if_pos ⟨hab, ea, eb, ee⟩
          rw [t] at i1
          exact br_f hb' (wx_in1 (by omega) (by omega) ea (br_f (by decide) (wx_in1 (by omega) (by omega) eb (br_f (by decide) (wx_edg1 (by omega) (by omega) hF ee (br_f (by decide) (wx_six hn R hh ha (by omega) (nm_r (wv_plus _ _ _) (nm_r (nI_1 _) i1)))))))))
        · rw [wv_t0 _ _ (fun k => ee k.2.2.2)] at i1
          exact br_f hb' (wx_in1 (by omega) (by omega) ea (br_f (by decide) (wx_in1 (by omega) (by omega) eb (br_f (by decide) (wx_edg0 (by omega) (by omega) hF ee (br_t rfl (nm_r (nI_1 _) i1)))))))
      · rw [wv_t0 _ _ (fun k => eb k.2.2.1)] at i1
        exact br_f hb' (wx_in1 (by omega) (by omega) ea (br_f (by decide) (wx_in0 (by omega) (by omega) eb (br_t rfl (nm_r (nI_1 _) i1)))))
    · rw [wv_t0 _ _ (fun k => ea k.2.1)] at i1
      exact br_f hb' (wx_in0 (by omega) (by omega) ea (br_t rfl (nm_r (nI_1 _) i1)))
theorem wv_low {P : Nat → gv_V} {F : Nat} {B : Nat → Nat → Bool} {f h a : Nat} : hs_i (fun b => hv_t P F B f h a b) (a + 1) = 0 :=
  hs_i_zero _ fun i hi => if_neg fun k => absurd k.1 (by omega)
theorem wx_u11 {post : Int32 → Prop} (hn : n ≤ 14) (R : hi_rg X Y Z n) (hF : F ≤ 24) {f h : Nat} (hf : f < F) (hh : h < n) (hp : post (Int32.ofInt (hv_S n (hi_P X Y Z) F (hi_B M) f h))) :
    ∀ d a, a + d = n → wX_sixVolumeUnder_11 post (nI f) (nI h) rm (nI n) (nI F) X Y Z A B C D M (d + 1) (Int32.ofInt (hs_i (fun a => hs_i (fun b => hv_t (hi_P X Y Z) F (hi_B M) f h a b) n) a)) (nI a) := by
  intro d
  induction d with
  | zero =>
    intro a ha
    have e : a = n := by omega
    rw [e]
    exact br_t (nI_le (Nat.le_refl n) (by omega)) hp
  | succ d ih =>
    intro a ha
    have ha' : ¬ nI n ≤ nI a := nI_ge (by omega) (by omega)
    have i1 := ih (a + 1) (by omega)
    simp only [hs_i] at i1
    have g := wx_u26 (post := post) (rm := rm) (A := A) (B := B) (C := C) (D := D) (J := wX_sixVolumeUnder_11 post (nI f) (nI h) rm (nI n) (nI F) X Y Z A B C D M (d + 1)) hn R hF hf hh (show a < n by omega) (hs_i (fun a => hs_i (fun b => hv_t (hi_P X Y Z) F (hi_B M) f h a b) n) a) i1 (n - (a + 1)) (a + 1) (by omega) (by omega)
    rw [wv_low, Int.add_zero] at g
    exact br_f ha' (nm_r (nI_1 _) ⟨_, g⟩)
theorem wx_least (hn : n ≤ 14) {f : Nat} (hf : f < 24) : ∀ d j, j + d = n → (∃ p, j ≤ p ∧ p < n ∧ hi_B M f p = true) → ∃ h, h < n ∧ hi_B M f h = true ∧ ∀ post : Int32 → Prop, post (nI h) → wX_leastPointIn_2 post (nI f) rm (nI n) (nI F) X Y Z A B C D M (d + 1) (nI j) := by
  intro d
  induction d with
  | zero => intro j hj ⟨p, h1, h2, _⟩; exact absurd h1 (by omega)
  | succ d ih =>
    intro j hj ⟨p, h1, h2, h3⟩
    have hj' : ¬ nI n ≤ nI j := nI_ge (by omega) (by omega)
    by_cases e : hi_B M f j = true
    · exact ⟨j, by omega, e, fun post h => br_f hj' (wx_in1 hf (by omega) e (br_f (by decide) h))⟩
    · obtain ⟨h, hh, eh, g⟩ := ih (j + 1) (by omega) ⟨p, by
        by_cases e2 : p = j
        · rw [e2] at h3; exact absurd h3 e
        · omega, h2, h3⟩
      exact ⟨h, hh, eh, fun post k => br_f hj' (wx_in0 hf (by omega) e (br_t rfl (nm_r (nI_1 _) (g post k))))⟩
theorem wx_under (hn : n ≤ 14) (R : hi_rg X Y Z n) (hF : F ≤ 24) {f : Nat} (hf : f < F) (hp : ∃ p, p < n ∧ hi_B M f p = true) : ∃ h, h < n ∧ hi_B M f h = true ∧ ∀ post : Int32 → Prop, post (Int32.ofInt (hv_S n (hi_P X Y Z) F (hi_B M) f h)) → wpX_sixVolumeUnder post (rm, nI n, nI F, X, Y, Z, A, B, C, D, M) (nI f) := by
  obtain ⟨p, hp, ep⟩ := hp
  obtain ⟨h, hh, eh, g⟩ := wx_least (rm := rm) (F := F) (X := X) (Y := Y) (Z := Z) (A := A) (B := B) (C := C) (D := D) hn (show f < 24 by omega) n 0 (by omega) ⟨p, Nat.zero_le _, hp, ep⟩
  exact ⟨h, hh, eh, fun post k => ⟨_, g _ ⟨n + 1, wx_u11 hn R hF hf hh k n 0 (by omega)⟩⟩⟩
theorem wy_c110 {post : Int32 → Prop} {J J2 : Int32 → Int32 → Prop} (hn : n ≤ 14) (R : hi_rg X Y Z n) (hF : F ≤ 24) {f h a b : Nat} {s : Int32} (hh : h < n) (ha : a < n) (hb : b < n) (h1 : he_e F (hi_B M) a b = true → J2 (s + Int32.ofInt (hv_abs (hv_T (hi_P X Y Z 0) (hi_P X Y Z h) (hi_P X Y Z a) (hi_P X Y Z b)))) (nI (b + 1))) (h0 : ¬ he_e F (hi_B M) a b = true → J2 s (nI (b + 1))) :
    wY_cone_110 post J J2 (nI f) (nI h) s (nI a) (nI b) 1 rm (nI n) so (nI F) X Y Z A B C D M := by
  refine br_f (nI_pos (by omega)) (br_f (by decide) ?_)
  by_cases ee : he_e F (hi_B M) a b = true
  · exact wy_edg1 (by omega) (by omega) hF ee (br_f (by decide) (wy_six hn R hh ha hb (nm_e (nm_r (nI_1 _) (h1 ee)))))
  · exact wy_edg0 (by omega) (by omega) hF ee (br_t rfl (nm_r (nI_1 _) (h0 ee)))
theorem wy_c66 {post : Int32 → Prop} {J : Int32 → Int32 → Prop} (hn : n ≤ 14) (R : hi_rg X Y Z n) (hF : F ≤ 24) {f h a : Nat} (hf : f < F) (hh : h < n) (ha : a < n) (s : Int) (hJ : J (Int32.ofInt (s + hs_i (fun b => hv_t (hi_P X Y Z) F (hi_B M) f h a b) n)) (nI (a + 1))) :
    ∀ d b, b + d = n → a < b → wY_cone_66 post J (nI f) (nI h) (nI a) rm (nI n) so (nI F) X Y Z A B C D M (d + 1) (Int32.ofInt (s + hs_i (fun b => hv_t (hi_P X Y Z) F (hi_B M) f h a b) b)) (nI b) := by
  intro d
  induction d with
  | zero =>
    intro b hb hab
    have e : b = n := by omega
    rw [e]
    exact br_t (nI_le (Nat.le_refl n) (by omega)) (nm_r (nI_1 _) hJ)
  | succ d ih =>
    intro b hb hab
    have hb' : ¬ nI n ≤ nI b := nI_ge (by omega) (by omega)
    have vf : vp_in (nI f) 364 := vp_in_nI (by omega) (by omega)
    have ba := wy_bit (M := M) (f := f) (p := a) (by omega) (by omega)
    have bb := wy_bit (M := M) (f := f) (p := b) (by omega) (by omega)
    have i1 := ih (b + 1) (by omega) (by omega)
    simp only [hs_i] at i1
    have nh : ¬ nI h < 0 := nI_pos (by omega)
    by_cases ea : hi_B M f a = true
    · by_cases eb : hi_B M f b = true
      · refine br_f hb' ⟨vf, br_t (ba.mpr ea) ⟨vf, br_t (bb.mpr eb) (wy_c110 hn R hF hh ha (by omega) (fun ee => ?_) (fun ee => ?_))⟩⟩
        · have t : hv_t (hi_P X Y Z) F (hi_B M) f h a b = hv_abs (hv_T (hi_P X Y Z 0) (hi_P X Y Z h) (hi_P X Y Z a) (hi_P X Y Z b)) := if_pos ⟨hab, ea, eb, ee⟩
          rw [t] at i1
          rw [wv_plus]
          exact i1
        · rw [wv_t0 _ _ (fun k => ee k.2.2.2)] at i1
          exact i1
      · rw [wv_t0 _ _ (fun k => eb k.2.2.1)] at i1
        exact br_f hb' ⟨vf, br_t (ba.mpr ea) ⟨vf, br_f (fun k => eb (bb.mp k)) (br_f nh (br_t rfl (nm_r (nI_1 _) i1)))⟩⟩
    · rw [wv_t0 _ _ (fun k => ea k.2.1)] at i1
      exact br_f hb' ⟨vf, br_f (fun k => ea (ba.mp k)) (br_f nh (br_t rfl (nm_r (nI_1 _) i1)))⟩
theorem wy_c51 {post : Int32 → Prop} (hn : n ≤ 14) (R : hi_rg X Y Z n) (hF : F ≤ 24) {f h : Nat} (hf : f < F) (hh : h < n) (hp : post (Int32.ofInt (hv_S n (hi_P X Y Z) F (hi_B M) f h))) :
    ∀ d a, a + d = n → wY_cone_51 post (nI f) (nI h) rm (nI n) so (nI F) X Y Z A B C D M (d + 1) (Int32.ofInt (hs_i (fun a => hs_i (fun b => hv_t (hi_P X Y Z) F (hi_B M) f h a b) n) a)) (nI a) := by
  intro d
  induction d with
  | zero =>
    intro a ha
    have e : a = n := by omega
    rw [e]
    exact br_t (nI_le (Nat.le_refl n) (by omega)) hp
  | succ d ih =>
    intro a ha
    have ha' : ¬ nI n ≤ nI a := nI_ge (by omega) (by omega)
    have i1 := ih (a + 1) (by omega)
    simp only [hs_i] at i1
    have g := wy_c66 (post := post) (rm := rm) (so := so) (A := A) (B := B) (C := C) (D := D) (J := wY_cone_51 post (nI f) (nI h) rm (nI n) so (nI F) X Y Z A B C D M (d + 1)) hn R hF hf hh (show a < n by omega) (hs_i (fun a => hs_i (fun b => hv_t (hi_P X Y Z) F (hi_B M) f h a b) n) a) i1 (n - (a + 1)) (a + 1) (by omega) (by omega)
    rw [wv_low, Int.add_zero] at g
    exact br_f ha' (nm_r (nI_1 _) ⟨_, g⟩)
theorem wy_n66 {post : Int32 → Prop} {J : Int32 → Int32 → Prop} (hn : n ≤ 14) (hF : F ≤ 24) {f a : Nat} (hf : f < F) (ha : a < n) (s : Int32) (hJ : J s (nI (a + 1))) :
    ∀ d b, b + d = n → wY_cone_66 post J (nI f) (-1) (nI a) rm (nI n) so (nI F) X Y Z A B C D M (d + 1) s (nI b) := by
  intro d
  induction d with
  | zero =>
    intro b hb
    exact br_t (nI_le (by omega) (by omega)) (nm_r (nI_1 _) hJ)
  | succ d ih =>
    intro b hb
    have hb' : ¬ nI n ≤ nI b := nI_ge (by omega) (by omega)
    have vf : vp_in (nI f) 364 := vp_in_nI (by omega) (by omega)
    have ba := wy_bit (M := M) (f := f) (p := a) (by omega) (by omega)
    have bb := wy_bit (M := M) (f := f) (p := b) (by omega) (by omega)
    have i1 := ih (b + 1) (by omega)
    by_cases ea : hi_B M f a = true
    · by_cases eb : hi_B M f b = true
      · exact br_f hb' ⟨vf, br_t (ba.mpr ea) ⟨vf, br_t (bb.mpr eb) (br_t (by decide) (nm_r (nI_1 _) i1))⟩⟩
      · exact br_f hb' ⟨vf, br_t (ba.mpr ea) ⟨vf, br_f (fun k => eb (bb.mp k)) (br_t (by decide) (nm_r (nI_1 _) i1))⟩⟩
    · exact br_f hb' ⟨vf, br_f (fun k => ea (ba.mp k)) (br_t (by decide) (nm_r (nI_1 _) i1))⟩
theorem wy_n51 {post : Int32 → Prop} (hn : n ≤ 14) (hF : F ≤ 24) {f : Nat} (hf : f < F) (s : Int32) (hp : post s) : ∀ d a, a + d = n → wY_cone_51 post (nI f) (-1) rm (nI n) so (nI F) X Y Z A B C D M (d + 1) s (nI a) := by
  intro d
  induction d with
  | zero =>
    intro a ha
    exact br_t (nI_le (by omega) (by omega)) hp
  | succ d ih =>
    intro a ha
    have ha' : ¬ nI n ≤ nI a := nI_ge (by omega) (by omega)
    exact br_f ha' (nm_r (nI_1 _) ⟨_, wy_n66 hn hF hf (show a < n by omega) s (ih (a + 1) (by omega)) (n - (a + 1)) (a + 1) (by omega)⟩)
theorem wy_c4 (hn : n ≤ 14) (hF : F ≤ 24) {f : Nat} (hf : f < F) : ∀ d j, j + d = n →
    (∃ h, h < n ∧ hi_B M f h = true ∧ ∀ post : Int32 → Prop, (∃ m, wY_cone_51 post (nI f) (nI h) rm (nI n) so (nI F) X Y Z A B C D M m 0 0) → wY_cone_4 post (nI f) rm (nI n) so (nI F) X Y Z A B C D M (d + 2) (-1) (nI j)) ∨
    ((∀ p, j ≤ p → p < n → hi_B M f p = true → ¬ 3 ≤ he_w F (hi_B M) p p) ∧ ∀ post : Int32 → Prop, (∃ m, wY_cone_51 post (nI f) (-1) rm (nI n) so (nI F) X Y Z A B C D M m 0 0) → wY_cone_4 post (nI f) rm (nI n) so (nI F) X Y Z A B C D M (d + 2) (-1) (nI j)) := by
  intro d
  induction d with
  | zero =>
    intro j hj
    exact Or.inr ⟨fun p h1 h2 => absurd h1 (by omega), fun post h => br_t (nI_le (by omega) (by omega)) h⟩
  | succ d ih =>
    intro j hj
    have hj' : ¬ nI n ≤ nI j := nI_ge (by omega) (by omega)
    have vf : vp_in (nI f) 364 := vp_in_nI (by omega) (by omega)
    have bj := wy_bit (M := M) (f := f) (p := j) (by omega) (by omega)
    have i1 := ih (j + 1) (by omega)
    have m1 : ¬ (0 : Int32) ≤ -1 := by decide
    by_cases e : hi_B M f j = true
    · by_cases c : 3 ≤ he_w F (hi_B M) j j
      · refine Or.inl ⟨j, by omega, e, fun post h => ?_⟩
        refine br_f hj' (br_f m1 ⟨vf, br_t (bj.mpr e) (wy_cor1 (by omega) hF c (br_f (by decide) (nm_r (nI_1 _) ?_)))⟩)
        by_cases hl : nI n ≤ nI (j + 1)
        · exact br_t hl h
        · exact br_f hl (br_t (nI_pos' (by omega)) h)
      · rcases i1 with ⟨h, hh, eh, g⟩ | ⟨nc, g⟩
        · exact Or.inl ⟨h, hh, eh, fun post k => br_f hj' (br_f m1 ⟨vf, br_t (bj.mpr e) (wy_cor0 (by omega) hF c (br_t rfl (nm_r (nI_1 _) (g post k))))⟩)⟩
        · refine Or.inr ⟨fun p h1 h2 h3 => ?_, fun post k => br_f hj' (br_f m1 ⟨vf, br_t (bj.mpr e) (wy_cor0 (by omega) hF c (br_t rfl (nm_r (nI_1 _) (g post k))))⟩)⟩
          by_cases e2 : p = j
          · rw [e2]; exact c
          · exact nc p (by omega) h2 h3
    · rcases i1 with ⟨h, hh, eh, g⟩ | ⟨nc, g⟩
      · exact Or.inl ⟨h, hh, eh, fun post k => br_f hj' (br_f m1 ⟨vf, br_f (fun q => e (bj.mp q)) (nm_r (nI_1 _) (g post k))⟩)⟩
      · refine Or.inr ⟨fun p h1 h2 h3 => ?_, fun post k => br_f hj' (br_f m1 ⟨vf, br_f (fun q => e (bj.mp q)) (nm_r (nI_1 _) (g post k))⟩)⟩
        by_cases e2 : p = j
        · rw [e2] at h3; exact absurd h3 e
        · exact nc p (by omega) h2 h3
theorem wv_none {P : Nat → gv_V} {B : Nat → Nat → Bool} {f h : Nat} (nc : ∀ p, p < n → B f p = true → ¬ 3 ≤ he_w F B p p) : hv_S n P F B f h = 0 :=
  hs_i_zero n fun a ha => hs_i_zero n fun b hb => if_neg fun k => nc a ha k.2.1 (of_decide_eq_true k.2.2.2).2.1
theorem wq_cone (hn : n ≤ 14) (R : hi_rg X Y Z n) (hF : F ≤ 24) {N : Nat → gv_V} {L : Nat → Int} (H : hf_FL n (hi_P X Y Z) F N L (hi_B M)) (CP : hf_CP n (hi_P X Y Z) F (hi_B M)) (dist : ∀ i j, i < n → j < n → i ≠ j → hi_P X Y Z i ≠ hi_P X Y Z j) {f : Nat} (hf : f < F) :
    ∃ r : Int32, (∀ post : Int32 → Prop, post r → wpX_sixVolumeUnder post (rm, nI n, nI F, X, Y, Z, A, B, C, D, M) (nI f)) ∧ (∀ post : Int32 → Prop, post r → wpY_cone post (rm, nI n, so, nI F, X, Y, Z, A, B, C, D, M) (nI f)) := by
  obtain ⟨p, _, _, hp, _, _, ep, _⟩ := H.2.2.1 f hf
  obtain ⟨h, hh, eh, gX⟩ := wx_under (rm := rm) (A := A) (B := B) (C := C) (D := D) hn R hF hf ⟨p, hp, ep⟩
  refine ⟨_, gX, fun post k => ⟨n + 2, ?_⟩⟩
  rcases wy_c4 (rm := rm) (so := so) (X := X) (Y := Y) (Z := Z) (A := A) (B := B) (C := C) (D := D) (M := M) hn hF hf n 0 (by omega) with ⟨h2, hh2, eh2, g⟩ | ⟨nc, g⟩
  · refine g post ⟨n + 1, wy_c51 hn R hF hf hh2 ?_ n 0 (by omega)⟩
    rw [hv_vol H CP dist hf hh2 hh eh2 eh]
    exact k
  · have z : hv_S n (hi_P X Y Z) F (hi_B M) f h = 0 := wv_none fun p h2 h3 => nc p (Nat.zero_le _) h2 h3
    rw [z] at k
    exact g post ⟨n + 1, wy_n51 hn hF hf 0 k n 0 (by omega)⟩
theorem wq_vol (hn : n ≤ 14) (R : hi_rg X Y Z n) (hF : F ≤ 24) {N : Nat → gv_V} {L : Nat → Int} (H : hf_FL n (hi_P X Y Z) F N L (hi_B M)) (CP : hf_CP n (hi_P X Y Z) F (hi_B M)) (dist : ∀ i j, i < n → j < n → i ≠ j → hi_P X Y Z i ≠ hi_P X Y Z j) :
    ∀ d j, j + d = F → ∀ c : Int32, ∃ r : Int32, (∀ post : Int32 → Prop, post r → wX_sixVolume_14 post rm (nI n) (nI F) X Y Z A B C D M (d + 1) c (nI j)) ∧ (∀ post : Int32 → Prop, post r → wY_sixVolume_14 post rm (nI n) so (nI F) X Y Z A B C D M (d + 1) c (nI j)) := by
  intro d
  induction d with
  | zero =>
    intro j hj c
    have hl : nI F ≤ nI j := nI_le (by omega) (by omega)
    exact ⟨c, fun post h => br_t hl h, fun post h => br_t hl h⟩
  | succ d ih =>
    intro j hj c
    have hj' : ¬ nI F ≤ nI j := nI_ge (by omega) (by omega)
    obtain ⟨q, qX, qY⟩ := wq_cone (rm := rm) (so := so) (A := A) (B := B) (C := C) (D := D) hn R hF H CP dist (f := j) (by omega)
    obtain ⟨r, hX, hY⟩ := ih (j + 1) (by omega) (c + q)
    exact ⟨r, fun post h => br_f hj' (qX _ (nm_e (nm_r (nI_1 _) (hX post h)))), fun post h => br_f hj' (qY _ (nm_e (nm_r (nI_1 _) (hY post h))))⟩
