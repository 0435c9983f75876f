/-! whole-number vectors in space -/
abbrev gv_V : Type := Int × Int × Int
def gv_d (a b : gv_V) : Int := a.1 * b.1 + a.2.1 * b.2.1 + a.2.2 * b.2.2
def gv_x (a b : gv_V) : gv_V := (a.2.1 * b.2.2 - a.2.2 * b.2.1, a.2.2 * b.1 - a.1 * b.2.2, a.1 * b.2.1 - a.2.1 * b.1)
def gv_s (a b : gv_V) : gv_V := (a.1 - b.1, a.2.1 - b.2.1, a.2.2 - b.2.2)
def gv_c (k : Int) (a : gv_V) : gv_V := (k * a.1, k * a.2.1, k * a.2.2)
def gv_a (a b : gv_V) : gv_V := (a.1 + b.1, a.2.1 + b.2.1, a.2.2 + b.2.2)
theorem gv_sq (x : Int) : 0 ≤ x * x := by
  rcases Int.le_total 0 x with h | h
  · exact Int.mul_nonneg h h
  · exact Int.mul_nonneg_of_nonpos_of_nonpos h h
theorem gv_sq0 {x : Int} (h : x * x = 0) : x = 0 := by
  rcases Int.mul_eq_zero.mp h with h | h <;> exact h
theorem gv_nn (a : gv_V) : 0 ≤ gv_d a a := by
  have h1 := gv_sq a.1
  have h2 := gv_sq a.2.1
  have h3 := gv_sq a.2.2
  simp only [gv_d]
  omega
theorem gv_zc {w : gv_V} (h : gv_d w w = 0) : w.1 = 0 ∧ w.2.1 = 0 ∧ w.2.2 = 0 := by
  have h1 := gv_sq w.1
  have h2 := gv_sq w.2.1
  have h3 := gv_sq w.2.2
  simp only [gv_d] at h
  exact ⟨gv_sq0 (by omega), gv_sq0 (by omega), gv_sq0 (by omega)⟩
theorem gv_z {w : gv_V} (h : gv_d w w = 0) (q : gv_V) : gv_d w q = 0 := by
  obtain ⟨e1, e2, e3⟩ := gv_zc h
  simp [gv_d, e1, e2, e3]
theorem gv_ne {w q : gv_V} (h : gv_d w q ≠ 0) : gv_d w w ≠ 0 := fun e => h (gv_z e q)
theorem gv_comm (a b : gv_V) : gv_d a b = gv_d b a := by simp only [gv_d]; grobner
theorem gv_ds (m a b : gv_V) : gv_d m (gv_s a b) = gv_d m a - gv_d m b := by simp only [gv_d, gv_s]; grobner
theorem gv_dsl (a b m : gv_V) : gv_d (gv_s a b) m = gv_d a m - gv_d b m := by simp only [gv_d, gv_s]; grobner
theorem gv_dcl (k : Int) (a b : gv_V) : gv_d (gv_c k a) b = k * gv_d a b := by simp only [gv_d, gv_c]; grobner
theorem gv_dcr (k : Int) (a b : gv_V) : gv_d a (gv_c k b) = k * gv_d a b := by simp only [gv_d, gv_c]; grobner
theorem gv_dal (a b c : gv_V) : gv_d (gv_a a b) c = gv_d a c + gv_d b c := by simp only [gv_d, gv_a]; grobner
theorem gv_dar (a b c : gv_V) : gv_d a (gv_a b c) = gv_d a b + gv_d a c := by simp only [gv_d, gv_a]; grobner
theorem gv_xl (u a : gv_V) : gv_d (gv_x u a) u = 0 := by simp only [gv_d, gv_x]; grobner
theorem gv_xr (u a : gv_V) : gv_d (gv_x u a) a = 0 := by simp only [gv_d, gv_x]; grobner
theorem gv_cyc (u a b : gv_V) : gv_d u (gv_x a b) = gv_d (gv_x u a) b := by simp only [gv_d, gv_x]; grobner
theorem gv_anti (u a b : gv_V) : gv_d (gv_x u a) b = - gv_d (gv_x u b) a := by simp only [gv_d, gv_x]; grobner
theorem gv_antr (m a b : gv_V) : gv_d m (gv_x a b) = - gv_d m (gv_x b a) := by simp only [gv_d, gv_x]; grobner
theorem gv_bc (a b c d : gv_V) : gv_d (gv_x a b) (gv_x c d) = gv_d a c * gv_d b d - gv_d b c * gv_d a d := by simp only [gv_d, gv_x]; grobner
theorem gv_same (a b : gv_V) (h : gv_d (gv_s a b) (gv_s a b) = 0) : a = b := by
  obtain ⟨h1, h2, h3⟩ := gv_zc h
  simp only [gv_s] at h1 h2 h3
  exact Prod.ext (by omega) (Prod.ext (by omega) (by omega))
set_option maxHeartbeats 2000000 in
theorem gv_par2 (m u v q : gv_V) (hu : gv_d m u = 0) (hv : gv_d m v = 0) :
    gv_d (gv_x u v) (gv_x u v) * gv_d m q = gv_d (gv_x u v) m * gv_d (gv_x u v) q := by
  have e : gv_d (gv_x u v) (gv_x u v) * gv_d m q = gv_d (gv_x u v) m * gv_d (gv_x u v) q + gv_d m v * gv_d (gv_x (gv_x u v) u) q - gv_d m u * gv_d (gv_x (gv_x u v) v) q := by
    simp only [gv_d, gv_x]; grobner
  rw [e, hu, hv, Int.zero_mul, Int.zero_mul, Int.add_zero, Int.sub_zero]
-- two functionals that vanish on u and v vanish together
theorem gv_par (m u v d : gv_V) (hu : gv_d m u = 0) (hv : gv_d m v = 0) (nc : gv_d (gv_x u v) (gv_x u v) ≠ 0) (hd : gv_d m d ≠ 0) (q : gv_V) :
    gv_d m q = 0 ↔ gv_d (gv_x u v) q = 0 := by
  have e1 := gv_par2 m u v d hu hv
  have e2 := gv_par2 m u v q hu hv
  have t : gv_d (gv_x u v) m ≠ 0 := by
    intro h
    rw [h, Int.zero_mul] at e1
    exact Int.mul_ne_zero nc hd e1
  constructor
  · intro h
    rw [h, Int.mul_zero] at e2
    rcases Int.mul_eq_zero.mp e2.symm with h | h
    · exact absurd h t
    · exact h
  · intro h
    rw [h, Int.mul_zero] at e2
    rcases Int.mul_eq_zero.mp e2 with h | h
    · exact absurd h nc
    · exact h
-- M across a and c, and the height of their product over M is nothing: they are in one line
theorem gv_flat (M a c : gv_V) (M0 : gv_d M M ≠ 0) (ha : gv_d M a = 0) (hc : gv_d M c = 0) (h : gv_d M (gv_x a c) = 0) : gv_d (gv_x a c) (gv_x a c) = 0 := by
  have e := gv_par2 M a c M ha hc
  rw [gv_comm (gv_x a c) M, h, Int.zero_mul] at e
  rcases Int.mul_eq_zero.mp e with h | h
  · exact h
  · exact absurd h M0
theorem gv_cram (f g h p q : gv_V) : gv_d (gv_x g h) p * gv_d f q - gv_d (gv_x f h) p * gv_d g q + gv_d (gv_x f g) p * gv_d h q = gv_d (gv_x f g) h * gv_d p q := by
  simp only [gv_d, gv_x]; grobner
theorem gv_2d (M p a b c : gv_V) (M0 : gv_d M M ≠ 0) (ha : gv_d M a = 0) (hb : gv_d M b = 0) (hc : gv_d M c = 0) :
    gv_d p b * gv_d M (gv_x a c) = gv_d p a * gv_d M (gv_x b c) + gv_d p c * gv_d M (gv_x a b) := by
  have e : ∀ w : gv_V, gv_d w a * gv_d M (gv_x b c) - gv_d w b * gv_d M (gv_x a c) + gv_d w c * gv_d M (gv_x a b) = gv_d (gv_x a b) c * gv_d w M := by
    intro w
    simp only [gv_d, gv_x]; grobner
  have e1 := e M
  rw [ha, hb, hc, Int.zero_mul, Int.zero_mul, Int.zero_mul] at e1
  have d0 : gv_d (gv_x a b) c = 0 := by
    rcases Int.mul_eq_zero.mp (show gv_d (gv_x a b) c * gv_d M M = 0 by omega) with h | h
    · exact h
    · exact absurd h M0
  have e2 := e p
  rw [d0, Int.zero_mul] at e2
  omega
theorem gv_m1 {a b : Int} (hb : b < 0) (h : a * b < 0) : 0 < a := by
  apply Classical.byContradiction
  intro hn
  have := Int.mul_nonneg_of_nonpos_of_nonpos (a := a) (b := b) (by omega) (by omega)
  omega
theorem gv_m2 {a b : Int} (hb : b < 0) (h : 0 < a * b) : a < 0 := by
  apply Classical.byContradiction
  intro hn
  have := Int.mul_nonpos_of_nonneg_of_nonpos (a := a) (b := b) (by omega) (by omega)
  omega
theorem gv_m3 {a b : Int} (ha : 0 < a) (h : a * b ≤ 0) : b ≤ 0 := by
  apply Classical.byContradiction
  intro hn
  have := Int.mul_pos (a := a) (b := b) (by omega) (by omega)
  omega
theorem gv_m4 {a b : Int} (ha : 0 < a) (h : 0 ≤ a * b) : 0 ≤ b := by
  apply Classical.byContradiction
  intro hn
  have := Int.mul_neg_of_pos_of_neg (a := a) (b := b) (by omega) (by omega)
  omega
theorem gv_m5 {a b : Int} (ha : a < 0) (h : 0 ≤ a * b) : b ≤ 0 := by
  apply Classical.byContradiction
  intro hn
  have := Int.mul_neg_of_neg_of_pos (a := a) (b := b) (by omega) (by omega)
  omega
theorem gv_m6 {a b : Int} (ha : a < 0) (h : a * b ≤ 0) : 0 ≤ b := by
  apply Classical.byContradiction
  intro hn
  have := Int.mul_pos_of_neg_of_neg (a := a) (b := b) (by omega) (by omega)
  omega
-- three different supporting lines through one point of a plane: no
set_option maxHeartbeats 2000000 in
theorem gv_tri (f g h p F G H s : gv_V)
    (fF : gv_d f F = 0) (pF : gv_d p F = 0) (gF : gv_d g F < 0) (hF : gv_d h F < 0)
    (gG : gv_d g G = 0) (pG : gv_d p G = 0) (fG : gv_d f G < 0) (hG : gv_d h G < 0)
    (hH : gv_d h H = 0) (pH : gv_d p H = 0) (fH : gv_d f H < 0) (gH : gv_d g H < 0)
    (fs : gv_d f s = 0) (ps : gv_d p s ≠ 0) : False := by
  have c1 := gv_cram f g h p F
  have c2 := gv_cram f g h p G
  have c3 := gv_cram f g h p H
  rw [fF, pF, Int.mul_zero, Int.mul_zero] at c1
  rw [gG, pG, Int.mul_zero, Int.mul_zero] at c2
  rw [hH, pH, Int.mul_zero, Int.mul_zero] at c3
  have hd : gv_d (gv_x f g) p ≠ 0 := by
    intro hz
    have e : gv_d (gv_x f p) (gv_x s G) * gv_d g F + gv_d F (gv_x s G) * gv_d (gv_x f g) p = gv_d f F * gv_d (gv_x g p) (gv_x s G) - gv_d p F * gv_d (gv_x g f) (gv_x s G) := by
      simp only [gv_d, gv_x]; grobner
    rw [gv_bc f p s G, fF, pF, hz, fs] at e
    simp only [Int.zero_mul, Int.mul_zero] at e
    have t : gv_d p s * gv_d f G ≠ 0 := Int.mul_ne_zero ps (by omega)
    have t2 : (0 - gv_d p s * gv_d f G) * gv_d g F ≠ 0 := Int.mul_ne_zero (by omega) (by omega)
    omega
  generalize gv_d (gv_x g h) p = x at *
  generalize gv_d (gv_x f h) p = y at *
  generalize gv_d (gv_x f g) p = z at *
  rcases Int.lt_or_gt_of_ne hd with hz | hz
  · have a1 := Int.mul_pos_of_neg_of_neg hz hF
    have a2 : y < 0 := gv_m2 gF (by omega)
    have a3 := Int.mul_pos_of_neg_of_neg hz hG
    have a4 : 0 < x := gv_m1 fG (by omega)
    have a5 := Int.mul_neg_of_pos_of_neg a4 fH
    have a6 := Int.mul_pos_of_neg_of_neg a2 gH
    omega
  · have a1 := Int.mul_neg_of_pos_of_neg hz hF
    have a2 : 0 < y := gv_m1 gF (by omega)
    have a3 := Int.mul_neg_of_pos_of_neg hz hG
    have a4 : x < 0 := gv_m2 fG (by omega)
    have a5 := Int.mul_pos_of_neg_of_neg a4 fH
    have a6 := Int.mul_neg_of_pos_of_neg a2 gH
    omega
