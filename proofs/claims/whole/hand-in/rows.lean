section
/-! out of the kit's rows (bits, array writes) -/
def bt (x : Int32) (i : Nat) : Bool := x.toBitVec.getLsbD i
theorem b_ext {x y : Int32} (h : ∀ i, i < 32 → bt x i = bt y i) : x = y := Int32.toBitVec_inj.mp (BitVec.eq_of_getLsbD_eq (fun i hi => h i hi))
theorem b_or (x y : Int32) (i : Nat) : bt (x ||| y) i = (bt x i || bt y i) := by unfold bt; rw [Int32.toBitVec_or, BitVec.getLsbD_or]
theorem b_and (x y : Int32) (i : Nat) : bt (x &&& y) i = (bt x i && bt y i) := by unfold bt; rw [Int32.toBitVec_and, BitVec.getLsbD_and]
theorem b_0 (i : Nat) : bt 0 i = false := BitVec.getLsbD_zero
theorem s_l : ∀ n, n < 32 → ((nI n &&& 31).toBitVec.smod 32).toNat = n := by decide +kernel
theorem b_shl (n : Nat) (hn : n < 32) (x : Int32) {i : Nat} (hi : i < 32) : bt (x <<< (nI n &&& 31)) i = (decide (n ≤ i) && bt x (i - n)) := by
  unfold bt
  rw [Int32.toBitVec_shiftLeft]
  show (x.toBitVec <<< ((nI n &&& 31).toBitVec.smod 32).toNat).getLsbD i = _
  rw [s_l n hn, BitVec.getLsbD_shiftLeft]
  rcases Nat.lt_or_ge i n with h | h
  · simp [h, Nat.not_le.mpr h]
  · simp [hi, h, Nat.not_lt.mpr h]
theorem b_sshr (n : Nat) (hn : n < 32) (x : Int32) {i : Nat} (hi : i < 32) : bt (x >>> (nI n &&& 31)) i = if n + i < 32 then bt x (n + i) else bt x 31 := by
  unfold bt
  rw [Int32.toBitVec_shiftRight]
  show (x.toBitVec.sshiftRight ((nI n &&& 31).toBitVec.smod 32).toNat).getLsbD i = _
  rw [s_l n hn, BitVec.getLsbD_sshiftRight, BitVec.msb_eq_getLsbD_last]
  simp [hi]
theorem pk_us {f : Nat → Int32} {k : Nat} {x : Int32} : upd f k x k = x := if_pos rfl
theorem pk_un {f : Nat → Int32} {k j : Nat} {x : Int32} (h : j ≠ k) : upd f k x j = f j := if_neg h
/-! one bit -/
theorem bb_1 : ∀ i, i < 32 → bt 1 i = decide (i = 0) := by decide +kernel
theorem bb_one {p i : Nat} (hp : p < 32) (hi : i < 32) : bt ((1 : Int32) <<< (nI p &&& 31)) i = decide (i = p) := by
  rw [b_shl p hp 1 hi]
  rcases Nat.lt_or_ge i p with h | h
  · rw [decide_eq_false (by omega : ¬ p ≤ i), decide_eq_false (by omega : ¬ i = p)]; rfl
  · rw [bb_1 _ (by omega), decide_eq_true h, Bool.true_and]
    by_cases e : i = p
    · rw [decide_eq_true e, decide_eq_true (by omega)]
    · rw [decide_eq_false e, decide_eq_false (by omega)]
theorem bb_get (x : Int32) {p : Nat} (hp : p < 32) : (x >>> (nI p &&& 31)) &&& 1 = 1 ↔ bt x p = true := by
  have h0 : bt (x >>> (nI p &&& 31)) 0 = bt x p := by
    rw [b_sshr p hp x (by omega)]
    rw [Nat.add_zero, if_pos hp]
  constructor
  · intro h
    rw [← h0]
    have h1 : bt ((x >>> (nI p &&& 31)) &&& 1) 0 = true := by rw [h]; exact bb_1 0 (by omega)
    rw [b_and] at h1
    exact (Bool.and_eq_true_iff.mp h1).1
  · intro h
    apply b_ext
    intro i hi
    rw [b_and, bb_1 i hi]
    by_cases e : i = 0
    · subst e
      rw [h0, h]; rfl
    · rw [decide_eq_false e, Bool.and_false]
end
section
/-! whole-number vectors in space -/
abbrev gv_V : Type := Int × Int × Int
def gv_d (a b : gv_V) : Int := a.1 * b.1 + a.2.1 * b.2.1 + a.2.2 * b.2.2
def gv_x (a b : gv_V) : gv_V := (a.2.1 * b.2.2 - a.2.2 * b.2.1, a.2.2 * b.1 - a.1 * b.2.2, a.1 * b.2.1 - a.2.1 * b.1)
def gv_s (a b : gv_V) : gv_V := (a.1 - b.1, a.2.1 - b.2.1, a.2.2 - b.2.2)
def gv_c (k : Int) (a : gv_V) : gv_V := (k * a.1, k * a.2.1, k * a.2.2)
def gv_a (a b : gv_V) : gv_V := (a.1 + b.1, a.2.1 + b.2.1, a.2.2 + b.2.2)
theorem gv_sq (x : Int) : 0 ≤ x * x := by
  rcases Int.le_total 0 x with h | h
  · exact Int.mul_nonneg h h
  · exact Int.mul_nonneg_of_nonpos_of_nonpos h h
theorem gv_sq0 {x : Int} (h : x * x = 0) : x = 0 := by
  rcases Int.mul_eq_zero.mp h with h | h <;> exact h
theorem gv_nn (a : gv_V) : 0 ≤ gv_d a a := by
  have h1 := gv_sq a.1
  have h2 := gv_sq a.2.1
  have h3 := gv_sq a.2.2
  simp only [gv_d]
  omega
theorem gv_zc {w : gv_V} (h : gv_d w w = 0) : w.1 = 0 ∧ w.2.1 = 0 ∧ w.2.2 = 0 := by
  have h1 := gv_sq w.1
  have h2 := gv_sq w.2.1
  have h3 := gv_sq w.2.2
  simp only [gv_d] at h
  exact ⟨gv_sq0 (by omega), gv_sq0 (by omega), gv_sq0 (by omega)⟩
theorem gv_z {w : gv_V} (h : gv_d w w = 0) (q : gv_V) : gv_d w q = 0 := by
  obtain ⟨e1, e2, e3⟩ := gv_zc h
  simp [gv_d, e1, e2, e3]
theorem gv_ne {w q : gv_V} (h : gv_d w q ≠ 0) : gv_d w w ≠ 0 := fun e => h (gv_z e q)
theorem gv_comm (a b : gv_V) : gv_d a b = gv_d b a := by simp only [gv_d]; grobner
theorem gv_ds (m a b : gv_V) : gv_d m (gv_s a b) = gv_d m a - gv_d m b := by simp only [gv_d, gv_s]; grobner
theorem gv_dsl (a b m : gv_V) : gv_d (gv_s a b) m = gv_d a m - gv_d b m := by simp only [gv_d, gv_s]; grobner
theorem gv_dcl (k : Int) (a b : gv_V) : gv_d (gv_c k a) b = k * gv_d a b := by simp only [gv_d, gv_c]; grobner
theorem gv_dcr (k : Int) (a b : gv_V) : gv_d a (gv_c k b) = k * gv_d a b := by simp only [gv_d, gv_c]; grobner
theorem gv_dal (a b c : gv_V) : gv_d (gv_a a b) c = gv_d a c + gv_d b c := by simp only [gv_d, gv_a]; grobner
theorem gv_dar (a b c : gv_V) : gv_d a (gv_a b c) = gv_d a b + gv_d a c := by simp only [gv_d, gv_a]; grobner
theorem gv_xl (u a : gv_V) : gv_d (gv_x u a) u = 0 := by simp only [gv_d, gv_x]; grobner
theorem gv_xr (u a : gv_V) : gv_d (gv_x u a) a = 0 := by simp only [gv_d, gv_x]; grobner
theorem gv_cyc (u a b : gv_V) : gv_d u (gv_x a b) = gv_d (gv_x u a) b := by simp only [gv_d, gv_x]; grobner
theorem gv_anti (u a b : gv_V) : gv_d (gv_x u a) b = - gv_d (gv_x u b) a := by simp only [gv_d, gv_x]; grobner
theorem gv_antr (m a b : gv_V) : gv_d m (gv_x a b) = - gv_d m (gv_x b a) := by simp only [gv_d, gv_x]; grobner
theorem gv_bc (a b c d : gv_V) : gv_d (gv_x a b) (gv_x c d) = gv_d a c * gv_d b d - gv_d b c * gv_d a d := by simp only [gv_d, gv_x]; grobner
theorem gv_same (a b : gv_V) (h : gv_d (gv_s a b) (gv_s a b) = 0) : a = b := by
  obtain ⟨h1, h2, h3⟩ := gv_zc h
  simp only [gv_s] at h1 h2 h3
  exact Prod.ext (by omega) (Prod.ext (by omega) (by omega))
set_option maxHeartbeats 2000000 in
theorem gv_par2 (m u v q : gv_V) (hu : gv_d m u = 0) (hv : gv_d m v = 0) :
    gv_d (gv_x u v) (gv_x u v) * gv_d m q = gv_d (gv_x u v) m * gv_d (gv_x u v) q := by
  have e : gv_d (gv_x u v) (gv_x u v) * gv_d m q = gv_d (gv_x u v) m * gv_d (gv_x u v) q + gv_d m v * gv_d (gv_x (gv_x u v) u) q - gv_d m u * gv_d (gv_x (gv_x u v) v) q := by
    simp only [gv_d, gv_x]; grobner
  rw [e, hu, hv, Int.zero_mul, Int.zero_mul, Int.add_zero, Int.sub_zero]
-- two functionals that vanish on u and v vanish together
theorem gv_par (m u v d : gv_V) (hu : gv_d m u = 0) (hv : gv_d m v = 0) (nc : gv_d (gv_x u v) (gv_x u v) ≠ 0) (hd : gv_d m d ≠ 0) (q : gv_V) :
    gv_d m q = 0 ↔ gv_d (gv_x u v) q = 0 := by
  have e1 := gv_par2 m u v d hu hv
  have e2 := gv_par2 m u v q hu hv
  have t : gv_d (gv_x u v) m ≠ 0 := by
    intro h
    rw [h, Int.zero_mul] at e1
    exact Int.mul_ne_zero nc hd e1
  constructor
  · intro h
    rw [h, Int.mul_zero] at e2
    rcases Int.mul_eq_zero.mp e2.symm with h | h
    · exact absurd h t
    · exact h
  · intro h
    rw [h, Int.mul_zero] at e2
    rcases Int.mul_eq_zero.mp e2 with h | h
    · exact absurd h nc
    · exact h
-- M across a and c, and the height of their product over M is nothing: they are in one line
theorem gv_flat (M a c : gv_V) (M0 : gv_d M M ≠ 0) (ha : gv_d M a = 0) (hc : gv_d M c = 0) (h : gv_d M (gv_x a c) = 0) : gv_d (gv_x a c) (gv_x a c) = 0 := by
  have e := gv_par2 M a c M ha hc
  rw [gv_comm (gv_x a c) M, h, Int.zero_mul] at e
  rcases Int.mul_eq_zero.mp e with h | h
  · exact h
  · exact absurd h M0
theorem gv_cram (f g h p q : gv_V) : gv_d (gv_x g h) p * gv_d f q - gv_d (gv_x f h) p * gv_d g q + gv_d (gv_x f g) p * gv_d h q = gv_d (gv_x f g) h * gv_d p q := by
  simp only [gv_d, gv_x]; grobner
theorem gv_2d (M p a b c : gv_V) (M0 : gv_d M M ≠ 0) (ha : gv_d M a = 0) (hb : gv_d M b = 0) (hc : gv_d M c = 0) :
    gv_d p b * gv_d M (gv_x a c) = gv_d p a * gv_d M (gv_x b c) + gv_d p c * gv_d M (gv_x a b) := by
  have e : ∀ w : gv_V, gv_d w a * gv_d M (gv_x b c) - gv_d w b * gv_d M (gv_x a c) + gv_d w c * gv_d M (gv_x a b) = gv_d (gv_x a b) c * gv_d w M := by
    intro w
    simp only [gv_d, gv_x]; grobner
  have e1 := e M
  rw [ha, hb, hc, Int.zero_mul, Int.zero_mul, Int.zero_mul] at e1
  have d0 : gv_d (gv_x a b) c = 0 := by
    rcases Int.mul_eq_zero.mp (show gv_d (gv_x a b) c * gv_d M M = 0 by omega) with h | h
    · exact h
    · exact absurd h M0
  have e2 := e p
  rw [d0, Int.zero_mul] at e2
  omega
theorem gv_m1 {a b : Int} (hb : b < 0) (h : a * b < 0) : 0 < a := by
  apply Classical.byContradiction
  intro hn
  have := Int.mul_nonneg_of_nonpos_of_nonpos (a := a) (b := b) (by omega) (by omega)
  omega
theorem gv_m2 {a b : Int} (hb : b < 0) (h : 0 < a * b) : a < 0 := by
  apply Classical.byContradiction
  intro hn
  have := Int.mul_nonpos_of_nonneg_of_nonpos (a := a) (b := b) (by omega) (by omega)
  omega
theorem gv_m3 {a b : Int} (ha : 0 < a) (h : a * b ≤ 0) : b ≤ 0 := by
  apply Classical.byContradiction
  intro hn
  have := Int.mul_pos (a := a) (b := b) (by omega) (by omega)
  omega
theorem gv_m4 {a b : Int} (ha : 0 < a) (h : 0 ≤ a * b) : 0 ≤ b := by
  apply Classical.byContradiction
  intro hn
  have := Int.mul_neg_of_pos_of_neg (a := a) (b := b) (by omega) (by omega)
  omega
theorem gv_m5 {a b : Int} (ha : a < 0) (h : 0 ≤ a * b) : b ≤ 0 := by
  apply Classical.byContradiction
  intro hn
  have := Int.mul_neg_of_neg_of_pos (a := a) (b := b) (by omega) (by omega)
  omega
theorem gv_m6 {a b : Int} (ha : a < 0) (h : a * b ≤ 0) : 0 ≤ b := by
  apply Classical.byContradiction
  intro hn
  have := Int.mul_pos_of_neg_of_neg (a := a) (b := b) (by omega) (by omega)
  omega
-- three different supporting lines through one point of a plane: no
set_option maxHeartbeats 2000000 in
theorem gv_tri (f g h p F G H s : gv_V)
    (fF : gv_d f F = 0) (pF : gv_d p F = 0) (gF : gv_d g F < 0) (hF : gv_d h F < 0)
    (gG : gv_d g G = 0) (pG : gv_d p G = 0) (fG : gv_d f G < 0) (hG : gv_d h G < 0)
    (hH : gv_d h H = 0) (pH : gv_d p H = 0) (fH : gv_d f H < 0) (gH : gv_d g H < 0)
    (fs : gv_d f s = 0) (ps : gv_d p s ≠ 0) : False := by
  have c1 := gv_cram f g h p F
  have c2 := gv_cram f g h p G
  have c3 := gv_cram f g h p H
  rw [fF, pF, Int.mul_zero, Int.mul_zero] at c1
  rw [gG, pG, Int.mul_zero, Int.mul_zero] at c2
  rw [hH, pH, Int.mul_zero, Int.mul_zero] at c3
  have hd : gv_d (gv_x f g) p ≠ 0 := by
    intro hz
    have e : gv_d (gv_x f p) (gv_x s G) * gv_d g F + gv_d F (gv_x s G) * gv_d (gv_x f g) p = gv_d f F * gv_d (gv_x g p) (gv_x s G) - gv_d p F * gv_d (gv_x g f) (gv_x s G) := by
      simp only [gv_d, gv_x]; grobner
    rw [gv_bc f p s G, fF, pF, hz, fs] at e
    simp only [Int.zero_mul, Int.mul_zero] at e
    have t : gv_d p s * gv_d f G ≠ 0 := Int.mul_ne_zero ps (by omega)
    have t2 : (0 - gv_d p s * gv_d f G) * gv_d g F ≠ 0 := Int.mul_ne_zero (by omega) (by omega)
    omega
  generalize gv_d (gv_x g h) p = x at *
  generalize gv_d (gv_x f h) p = y at *
  generalize gv_d (gv_x f g) p = z at *
  rcases Int.lt_or_gt_of_ne hd with hz | hz
  · have a1 := Int.mul_pos_of_neg_of_neg hz hF
    have a2 : y < 0 := gv_m2 gF (by omega)
    have a3 := Int.mul_pos_of_neg_of_neg hz hG
    have a4 : 0 < x := gv_m1 fG (by omega)
    have a5 := Int.mul_neg_of_pos_of_neg a4 fH
    have a6 := Int.mul_pos_of_neg_of_neg a2 gH
    omega
  · have a1 := Int.mul_neg_of_pos_of_neg hz hF
    have a2 : 0 < y := gv_m1 gF (by omega)
    have a3 := Int.mul_neg_of_pos_of_neg hz hG
    have a4 : x < 0 := gv_m2 fG (by omega)
    have a5 := Int.mul_pos_of_neg_of_neg a4 fH
    have a6 := Int.mul_neg_of_pos_of_neg a2 gH
    omega
end
section
/-! sums, counts, greatest elements -/
def hs_n (g : Nat → Nat) : Nat → Nat
  | 0 => 0
  | k + 1 => hs_n g k + g k
def hs_i (g : Nat → Int) : Nat → Int
  | 0 => 0
  | k + 1 => hs_i g k + g k
def hs_c (p : Nat → Bool) : Nat → Nat
  | 0 => 0
  | k + 1 => hs_c p k + (if p k = true then 1 else 0)
theorem hs_c_t {p : Nat → Bool} {k : Nat} (h : p k = true) : hs_c p (k + 1) = hs_c p k + 1 := by
  simp [hs_c, h]
theorem hs_c_f {p : Nat → Bool} {k : Nat} (h : ¬ p k = true) : hs_c p (k + 1) = hs_c p k := by
  simp [hs_c, h]
theorem hs_c_le (p : Nat → Bool) : ∀ k, hs_c p k ≤ k := by
  intro k
  induction k with
  | zero => exact Nat.le_refl 0
  | succ k ih =>
    by_cases h : p k = true
    · rw [hs_c_t h]; omega
    · rw [hs_c_f h]; omega
theorem hs_c_pick {p : Nat → Bool} {j : Nat} : ∀ k, j < hs_c p k → ∃ i, i < k ∧ p i = true ∧ j ≤ hs_c p i := by
  intro k
  induction k with
  | zero => intro h; exact absurd h (Nat.not_lt_zero _)
  | succ k ih =>
    intro h
    by_cases hp : p k = true
    · rw [hs_c_t hp] at h
      exact ⟨k, by omega, hp, by omega⟩
    · rw [hs_c_f hp] at h
      obtain ⟨i, hi, pi, hj⟩ := ih h
      exact ⟨i, by omega, pi, hj⟩
theorem hs_c_mono {p : Nat → Bool} {i : Nat} : ∀ k, i ≤ k → hs_c p i ≤ hs_c p k := by
  intro k
  induction k with
  | zero => intro h; have : i = 0 := by omega
            rw [this]; exact Nat.le_refl _
  | succ k ih =>
    intro h
    by_cases e : i = k + 1
    · rw [e]; exact Nat.le_refl _
    · have h1 := ih (by omega)
      by_cases hp : p k = true
      · rw [hs_c_t hp]; omega
      · rw [hs_c_f hp]; omega
theorem hs_c_put {p : Nat → Bool} {i j k : Nat} (h : i < k) (hp : p i = true) (hj : j ≤ hs_c p i) : j + 1 ≤ hs_c p k := by
  have := hs_c_mono (p := p) (i := i + 1) k (by omega)
  rw [hs_c_t hp] at this
  omega
theorem hs_c_zero {p : Nat → Bool} : ∀ k, (∀ i, i < k → ¬ p i = true) → hs_c p k = 0 := by
  intro k
  induction k with
  | zero => intro _; rfl
  | succ k ih => intro h; rw [hs_c_f (h k (by omega))]; exact ih fun i hi => h i (by omega)
theorem hs_c_congr {p q : Nat → Bool} : ∀ k, (∀ i, i < k → p i = q i) → hs_c p k = hs_c q k := by
  intro k
  induction k with
  | zero => intro _; rfl
  | succ k ih => intro h; simp only [hs_c]; rw [ih fun i hi => h i (by omega), h k (by omega)]
theorem hs_c2_out {p : Nat → Bool} {k : Nat} (h : 2 ≤ hs_c p k) : ∃ a b, a < k ∧ b < k ∧ p a = true ∧ p b = true ∧ a ≠ b := by
  obtain ⟨a, ha, pa, h1⟩ := hs_c_pick (p := p) (j := 1) k (by omega)
  obtain ⟨b, hb, pb, _⟩ := hs_c_pick (p := p) (j := 0) a (by omega)
  exact ⟨a, b, ha, by omega, pa, pb, by omega⟩
theorem hs_c2_in {p : Nat → Bool} {k a b : Nat} (ha : a < k) (hb : b < k) (pa : p a = true) (pb : p b = true) (hab : a ≠ b) : 2 ≤ hs_c p k := by
  rcases Nat.lt_or_gt_of_ne hab with h | h
  · exact hs_c_put hb pb (hs_c_put h pa (Nat.zero_le _))
  · exact hs_c_put ha pa (hs_c_put h pb (Nat.zero_le _))
theorem hs_c3_out {p : Nat → Bool} {k : Nat} (h : 3 ≤ hs_c p k) : ∃ a b c, a < k ∧ b < k ∧ c < k ∧ p a = true ∧ p b = true ∧ p c = true ∧ a ≠ b ∧ a ≠ c ∧ b ≠ c := by
  obtain ⟨a, ha, pa, h1⟩ := hs_c_pick (p := p) (j := 2) k (by omega)
  obtain ⟨b, hb, pb, h2⟩ := hs_c_pick (p := p) (j := 1) a (by omega)
  obtain ⟨c, hc, pc, _⟩ := hs_c_pick (p := p) (j := 0) b (by omega)
  exact ⟨a, b, c, ha, by omega, by omega, pa, pb, pc, by omega, by omega, by omega⟩
theorem hs_c3_lt {p : Nat → Bool} {k a b c : Nat} (hab : a < b) (hbc : b < c) (hc : c < k) (pa : p a = true) (pb : p b = true) (pc : p c = true) : 3 ≤ hs_c p k :=
  hs_c_put hc pc (hs_c_put hbc pb (hs_c_put hab pa (Nat.zero_le _)))
theorem hs_c3_in {p : Nat → Bool} {k a b c : Nat} (ha : a < k) (hb : b < k) (hc : c < k) (pa : p a = true) (pb : p b = true) (pc : p c = true) (hab : a ≠ b) (hac : a ≠ c) (hbc : b ≠ c) : 3 ≤ hs_c p k := by
  rcases Nat.lt_or_gt_of_ne hab with h1 | h1 <;> rcases Nat.lt_or_gt_of_ne hac with h2 | h2 <;> rcases Nat.lt_or_gt_of_ne hbc with h3 | h3
  · exact hs_c3_lt h1 h3 hc pa pb pc
  · exact hs_c3_lt h2 h3 hb pa pc pb
  · exact absurd h1 (by omega)
  · exact hs_c3_lt h2 h1 hb pc pa pb
  · exact hs_c3_lt h1 h2 hc pb pa pc
  · exact absurd h1 (by omega)
  · exact hs_c3_lt h3 h2 ha pb pc pa
  · exact hs_c3_lt h3 h1 ha pc pb pa
theorem hs_c3_two {p : Nat → Bool} {k : Nat} (h : 3 ≤ hs_c p k) (f : Nat) : ∃ a b, a < k ∧ b < k ∧ p a = true ∧ p b = true ∧ a ≠ f ∧ b ≠ f ∧ a ≠ b := by
  obtain ⟨a, b, c, ha, hb, hc, pa, pb, pc, hab, hac, hbc⟩ := hs_c3_out h
  by_cases e : a = f
  · exact ⟨b, c, hb, hc, pb, pc, by omega, by omega, hbc⟩
  · by_cases e2 : b = f
    · exact ⟨a, c, ha, hc, pa, pc, e, by omega, hac⟩
    · exact ⟨a, b, ha, hb, pa, pb, e, e2, hab⟩
theorem hs_n_add (g h : Nat → Nat) : ∀ n, hs_n (fun v => g v + h v) n = hs_n g n + hs_n h n := by
  intro n
  induction n with
  | zero => rfl
  | succ n ih => simp only [hs_n]; rw [ih]; omega
theorem hs_n_zero (g : Nat → Nat) : ∀ n, (∀ v, v < n → g v = 0) → hs_n g n = 0 := by
  intro n
  induction n with
  | zero => intro _; rfl
  | succ n ih => intro h; simp only [hs_n]; rw [ih fun v hv => h v (by omega), h n (by omega)]
theorem hs_n_one (t : Nat) : ∀ n, t < n → hs_n (fun v => if (t == v) = true then 1 else 0) n = 1 := by
  intro n
  induction n with
  | zero => intro h; exact absurd h (Nat.not_lt_zero _)
  | succ n ih =>
    intro h
    simp only [hs_n]
    by_cases e : t = n
    · rw [hs_n_zero (fun v => if (t == v) = true then 1 else 0) n (fun v hv => by
        have : ¬ (t == v) = true := by simp; omega
        exact if_neg this)]
      simp [e]
    · rw [ih (by omega)]
      have : ¬ (t == n) = true := by simp; omega
      rw [if_neg this]
theorem hs_fib (w : Nat → Nat) (n : Nat) : ∀ F, (∀ f, f < F → w f < n) → hs_n (fun v => hs_c (fun f => w f == v) F) n = F := by
  intro F
  induction F with
  | zero => intro _; exact hs_n_zero _ n fun _ _ => rfl
  | succ F ih =>
    intro h
    have e : (fun v => hs_c (fun f => w f == v) (F + 1)) = (fun v => hs_c (fun f => w f == v) F + (if (w F == v) = true then 1 else 0)) := rfl
    rw [e, hs_n_add (fun v => hs_c (fun f => w f == v) F) (fun v => if (w F == v) = true then 1 else 0), ih fun f hf => h f (by omega), hs_n_one _ n (h F (by omega))]
theorem hs_cap (c : Nat → Nat) (t b : Nat) (tb : t ≠ b) (ct : c t = 0) (cb : c b = 0) : ∀ n, (∀ v, v < n → c v ≤ 2) → hs_n c n + (if t < n then 2 else 0) + (if b < n then 2 else 0) ≤ 2 * n := by
  intro n
  induction n with
  | zero => intro _; simp [hs_n]
  | succ n ih =>
    intro h
    have i1 := ih fun v hv => h v (by omega)
    have i2 := h n (by omega)
    simp only [hs_n]
    by_cases e1 : n = t
    · subst e1
      rw [if_neg (by omega)] at i1
      rw [if_pos (by omega), ct]
      by_cases e2 : b < n
      · rw [if_pos e2] at i1; rw [if_pos (by omega)]; omega
      · rw [if_neg e2] at i1; rw [if_neg (by omega)]; omega
    · by_cases e3 : n = b
      · subst e3
        rw [if_neg (Nat.lt_irrefl n)] at i1
        rw [if_pos (Nat.lt_succ_self n), cb]
        by_cases e2 : t < n
        · rw [if_pos e2] at i1; rw [if_pos (by omega)]; omega
        · rw [if_neg e2] at i1; rw [if_neg (by omega)]; omega
      · by_cases e2 : t < n
        · rw [if_pos e2] at i1; rw [if_pos (show t < n + 1 by omega)]
          by_cases e4 : b < n
          · rw [if_pos e4] at i1; rw [if_pos (show b < n + 1 by omega)]; omega
          · rw [if_neg e4] at i1; rw [if_neg (show ¬ b < n + 1 by omega)]; omega
        · rw [if_neg e2] at i1; rw [if_neg (show ¬ t < n + 1 by omega)]
          by_cases e4 : b < n
          · rw [if_pos e4] at i1; rw [if_pos (show b < n + 1 by omega)]; omega
          · rw [if_neg e4] at i1; rw [if_neg (show ¬ b < n + 1 by omega)]; omega
theorem hs_bd (g : Nat → Int) : ∀ n, ∃ K : Int, 0 ≤ K ∧ ∀ i, i < n → g i ≤ K := by
  intro n
  induction n with
  | zero => exact ⟨0, Int.le_refl _, fun i hi => absurd hi (Nat.not_lt_zero _)⟩
  | succ n ih =>
    obtain ⟨K, h0, hK⟩ := ih
    by_cases h : g n ≤ K
    · exact ⟨K, h0, fun i hi => by
        by_cases e : i = n
        · rw [e]; exact h
        · exact hK i (by omega)⟩
    · exact ⟨g n, by omega, fun i hi => by
        by_cases e : i = n
        · rw [e]; exact Int.le_refl _
        · have := hK i (by omega); omega⟩
theorem hr_max (S : Nat → Prop) (R : Nat → Nat → Prop) (tot : ∀ a b, S a → S b → R a b ∨ R b a) (tr : ∀ a b c, S a → S b → S c → R a b → R b c → R a c) :
    ∀ n, (∃ i, i < n ∧ S i) → ∃ q, q < n ∧ S q ∧ ∀ r, r < n → S r → R q r := by
  have rf : ∀ a, S a → R a a := fun a h => (tot a a h h).elim id id
  intro n
  induction n with
  | zero => intro ⟨i, hi, _⟩; exact absurd hi (Nat.not_lt_zero _)
  | succ k ih =>
    intro ⟨i, hi, si⟩
    by_cases hk : ∃ i, i < k ∧ S i
    · obtain ⟨q, hq, sq, hm⟩ := ih hk
      by_cases sk : S k
      · rcases tot q k sq sk with h | h
        · exact ⟨q, by omega, sq, fun r hr sr => by
            by_cases e : r = k
            · rw [e]; exact h
            · exact hm r (by omega) sr⟩
        · exact ⟨k, by omega, sk, fun r hr sr => by
            by_cases e : r = k
            · rw [e]; exact rf k sk
            · exact tr k q r sk sq sr h (hm r (by omega) sr)⟩
      · exact ⟨q, by omega, sq, fun r hr sr => by
          by_cases e : r = k
          · rw [e] at sr; exact absurd sr sk
          · exact hm r (by omega) sr⟩
    · have e : i = k := Classical.byContradiction fun h => hk ⟨i, by omega, si⟩
      subst e
      exact ⟨i, by omega, si, fun r hr sr => by
        by_cases e : r = i
        · rw [e]; exact rf i si
        · exact absurd ⟨r, by omega, sr⟩ hk⟩
/-! turning a plane about a line until it meets a point -/
theorem hr_ex2 (n : Nat) (s t : Nat → Int) (c z : Nat) (hs : ∀ i, i < n → s i ≤ 0) (hc : c < n) (sc : s c < 0) (hz : z < n) (cz : 0 < s c * t z - s z * t c) :
    ∃ q, q < n ∧ 0 < s c * t q - s q * t c ∧ ∀ r, r < n → s q * t r - s r * t q ≤ 0 := by
  obtain ⟨q, hq, sq, hm⟩ := hr_max (fun i => 0 < s c * t i - s i * t c) (fun q r => s q * t r - s r * t q ≤ 0)
    (fun a b _ _ => by (try dsimp only); omega)
    (fun a b w sa sb sw hab hbw => by
      (try dsimp only at *)
      have e : (s c * t b - s b * t c) * (s a * t w - s w * t a) = (s c * t a - s a * t c) * (s b * t w - s w * t b) + (s c * t w - s w * t c) * (s a * t b - s b * t a) := by grobner
      have e1 := Int.mul_nonpos_of_nonneg_of_nonpos (Int.le_of_lt sa) hbw
      have e2 := Int.mul_nonpos_of_nonneg_of_nonpos (Int.le_of_lt sw) hab
      exact gv_m3 sb (by omega))
    n ⟨z, hz, cz⟩
  refine ⟨q, hq, sq, fun r hr => ?_⟩
  (try dsimp only at sq hm)
  by_cases sr : 0 < s c * t r - s r * t c
  · exact hm r hr sr
  · have e : s c * (s q * t r - s r * t q) = s q * (s c * t r - s r * t c) + (- s r) * (s c * t q - s q * t c) := by grobner
    have e1 := Int.mul_nonneg_of_nonpos_of_nonpos (hs q hq) (show s c * t r - s r * t c ≤ 0 by omega)
    have h1 : 0 ≤ - s r := by have := hs r hr; omega
    have e2 := Int.mul_nonneg h1 (Int.le_of_lt sq)
    exact gv_m5 sc (by omega)
theorem hr_rot1 (n : Nat) (Q : Nat → gv_V) (m u : gv_V) (c z : Nat) (mu : gv_d m u = 0) (hm : ∀ i, i < n → gv_d m (Q i) ≤ 0) (hc : c < n) (mc : gv_d m (Q c) < 0) (hz : z < n) (cz : gv_d (gv_x u (Q c)) (Q z) < 0) :
    ∃ q w, q < n ∧ gv_d w u = 0 ∧ gv_d w (Q q) = 0 ∧ gv_d (gv_x u (Q q)) (gv_x u (Q q)) ≠ 0 ∧ (∀ i, i < n → gv_d w (Q i) ≤ 0) ∧ gv_d w (Q c) < 0 := by
  have m0 : 0 < gv_d m m := by
    have h1 := gv_nn m
    have h2 := gv_ne (w := m) (q := Q c) (by omega)
    omega
  have id : ∀ A B : gv_V, gv_d m A * gv_d (gv_x m u) B - gv_d m B * gv_d (gv_x m u) A = - (gv_d m m * gv_d (gv_x u A) B) := by
    intro A B
    have e : gv_d m A * gv_d (gv_x m u) B - gv_d m B * gv_d (gv_x m u) A = gv_d m u * gv_d m (gv_x A B) - gv_d m m * gv_d (gv_x u A) B := by
      simp only [gv_d, gv_x]; grobner
    rw [e, mu, Int.zero_mul]; omega
  obtain ⟨q, hq, cq, hr⟩ := hr_ex2 n (fun i => gv_d m (Q i)) (fun i => gv_d (gv_x m u) (Q i)) c z hm hc mc hz (by
    (try dsimp only)
    rw [id]
    have := Int.mul_neg_of_pos_of_neg m0 cz
    omega)
  (try dsimp only at cq hr)
  rw [id] at cq
  have wq : gv_d (gv_x u (Q q)) (Q c) = - gv_d (gv_x u (Q c)) (Q q) := gv_anti _ _ _
  have c1 : gv_d (gv_x u (Q c)) (Q q) < 0 := by
    apply Classical.byContradiction
    intro hn
    have := Int.mul_nonneg (Int.le_of_lt m0) (show 0 ≤ gv_d (gv_x u (Q c)) (Q q) by omega)
    omega
  refine ⟨q, gv_c (-1) (gv_x u (Q q)), hq, ?_, ?_, ?_, ?_, ?_⟩
  · rw [gv_dcl, gv_xl] <;> rfl
  · rw [gv_dcl, gv_xr] <;> rfl
  · exact gv_ne (q := Q c) (by omega)
  · intro i hi
    have h := hr i hi
    rw [id] at h
    have h2 := gv_m4 m0 (show 0 ≤ gv_d m m * gv_d (gv_x u (Q q)) (Q i) by omega)
    rw [gv_dcl]; omega
  · rw [gv_dcl]; omega
theorem hr_rot (n : Nat) (Q : Nat → gv_V) (m u : gv_V) (c : Nat) (u0 : gv_d u u ≠ 0) (mu : gv_d m u = 0) (hm : ∀ i, i < n → gv_d m (Q i) ≤ 0) (hc : c < n) (mc : gv_d m (Q c) < 0) (so : ∀ w : gv_V, (∀ i, i < n → gv_d w (Q i) = 0) → gv_d w w = 0) :
    ∃ q w, q < n ∧ gv_d w u = 0 ∧ gv_d w (Q q) = 0 ∧ gv_d (gv_x u (Q q)) (gv_x u (Q q)) ≠ 0 ∧ (∀ i, i < n → gv_d w (Q i) ≤ 0) ∧ gv_d w (Q c) < 0 := by
  have w0 : gv_d (gv_x u (Q c)) (gv_x u (Q c)) ≠ 0 := by
    apply gv_ne (q := gv_x u m)
    rw [gv_bc, gv_comm u m, mu, Int.mul_zero, Int.sub_zero]
    refine Int.mul_ne_zero u0 ?_
    rw [gv_comm]; omega
  have hz : ∃ z, z < n ∧ gv_d (gv_x u (Q c)) (Q z) ≠ 0 := by
    apply Classical.byContradiction
    intro hn
    exact w0 (so _ fun i hi => Classical.byContradiction fun h => hn ⟨i, hi, h⟩)
  obtain ⟨z, hz, cz⟩ := hz
  rcases Int.lt_or_gt_of_ne cz with h | h
  · exact hr_rot1 n Q m u c z mu hm hc mc hz h
  · have e : ∀ A B : gv_V, gv_d (gv_x (gv_c (-1) u) A) B = - gv_d (gv_x u A) B := by
      intro A B
      simp only [gv_d, gv_x, gv_c]; grobner
    obtain ⟨q, w, hq, wu, wq, nq, hw, wc⟩ := hr_rot1 n Q m (gv_c (-1) u) c z (by rw [gv_dcr, mu] <;> rfl) hm hc mc hz (by rw [e]; omega)
    refine ⟨q, w, hq, ?_, wq, ?_, hw, wc⟩
    · rw [gv_dcr] at wu; omega
    · intro h0
      apply nq
      have e2 : gv_d (gv_x (gv_c (-1) u) (Q q)) (gv_x (gv_c (-1) u) (Q q)) = gv_d (gv_x u (Q q)) (gv_x u (Q q)) := by
        simp only [gv_d, gv_x, gv_c]; grobner
      rw [e2]; exact h0
theorem hr_perp (m : gv_V) : ∃ u : gv_V, gv_d u u ≠ 0 ∧ gv_d m u = 0 := by
  by_cases h : m.1 = 0 ∧ m.2.1 = 0
  · exact ⟨(1, 0, 0), by simp [gv_d], by simp [gv_d, h.1]⟩
  · refine ⟨(m.2.1, - m.1, 0), ?_, ?_⟩
    · intro e
      obtain ⟨h1, h2, _⟩ := gv_zc e
      exact h ⟨by have h2' : - m.1 = 0 := h2; omega, h1⟩
    · simp only [gv_d]; grobner
theorem hr_dr (n : Nat) (Q : Nat → gv_V) (m : gv_V) (c : Nat) (hm : ∀ i, i < n → gv_d m (Q i) ≤ 0) (hc : c < n) (mc : gv_d m (Q c) < 0) (so : ∀ w : gv_V, (∀ i, i < n → gv_d w (Q i) = 0) → gv_d w w = 0) :
    ∃ q r w, q < n ∧ r < n ∧ gv_d w (Q q) = 0 ∧ gv_d w (Q r) = 0 ∧ gv_d (gv_x (Q q) (Q r)) (gv_x (Q q) (Q r)) ≠ 0 ∧ (∀ i, i < n → gv_d w (Q i) ≤ 0) ∧ gv_d w (Q c) < 0 := by
  obtain ⟨u, u0, mu⟩ := hr_perp m
  obtain ⟨q, w, hq, wu, wq, nq, hw, wc⟩ := hr_rot n Q m u c u0 mu hm hc mc so
  have q0 : gv_d (Q q) (Q q) ≠ 0 := by
    intro h0
    apply nq
    obtain ⟨e1, e2, e3⟩ := gv_zc h0
    simp [gv_d, gv_x, e1, e2, e3]
  obtain ⟨r, w2, hr, w2q, w2r, nr, hw2, w2c⟩ := hr_rot n Q w (Q q) c q0 wq hw hc wc so
  exact ⟨q, r, w2, hq, hr, w2q, w2r, nr, hw2, w2c⟩
end
section
/-! lists of facet planes: true ones, each once -/
def hf_nc (a b c : gv_V) : Prop := gv_d (gv_x (gv_s b a) (gv_s c a)) (gv_x (gv_s b a) (gv_s c a)) ≠ 0
theorem hf_nc1 {a b c : gv_V} (h : hf_nc a b c) : hf_nc b a c := by
  have e : gv_d (gv_x (gv_s a b) (gv_s c b)) (gv_x (gv_s a b) (gv_s c b)) = gv_d (gv_x (gv_s b a) (gv_s c a)) (gv_x (gv_s b a) (gv_s c a)) := by
    simp only [gv_d, gv_x, gv_s]; grobner
  unfold hf_nc at *
  rw [e]; exact h
theorem hf_nc2 {a b c : gv_V} (h : hf_nc a b c) : hf_nc a c b := by
  have e : gv_d (gv_x (gv_s c a) (gv_s b a)) (gv_x (gv_s c a) (gv_s b a)) = gv_d (gv_x (gv_s b a) (gv_s c a)) (gv_x (gv_s b a) (gv_s c a)) := by
    simp only [gv_d, gv_x]; grobner
  unfold hf_nc at *
  rw [e]; exact h
theorem hf_nc_ne {a b c : gv_V} (h : hf_nc a b c) : a ≠ b := by
  intro e
  apply h
  subst e
  simp [gv_d, gv_x, gv_s]
theorem hf_sub0 {a b : gv_V} (h : a ≠ b) : gv_d (gv_s b a) (gv_s b a) ≠ 0 := fun e => h (gv_same _ _ e).symm
def hf_FL (n : Nat) (P : Nat → gv_V) (F : Nat) (N : Nat → gv_V) (L : Nat → Int) (B : Nat → Nat → Bool) : Prop :=
  (∀ f, f < F → ∀ i, i < n → gv_d (N f) (P i) ≤ L f) ∧
  (∀ f, f < F → ∀ i, i < n → (B f i = true ↔ gv_d (N f) (P i) = L f)) ∧
  (∀ f, f < F → ∃ a b c, a < n ∧ b < n ∧ c < n ∧ B f a = true ∧ B f b = true ∧ B f c = true ∧ hf_nc (P a) (P b) (P c)) ∧
  (∀ f, f < F → ∃ d, d < n ∧ gv_d (N f) (P d) < L f) ∧
  (∀ f g, f < F → g < F → (∀ i, i < n → B f i = B g i) → f = g)
def hf_CP (n : Nat) (P : Nat → gv_V) (F : Nat) (B : Nat → Nat → Bool) : Prop :=
  ∀ (w : gv_V) (l : Int), (∀ i, i < n → gv_d w (P i) ≤ l) → (∃ d, d < n ∧ gv_d w (P d) < l) →
    ∀ a b c, a < n → b < n → c < n → gv_d w (P a) = l → gv_d w (P b) = l → gv_d w (P c) = l → hf_nc (P a) (P b) (P c) →
      ∃ f, f < F ∧ ∀ i, i < n → (B f i = true ↔ gv_d w (P i) = l)
def hf_so (n : Nat) (P : Nat → gv_V) : Prop :=
  ∃ a b c d, a < n ∧ b < n ∧ c < n ∧ d < n ∧ gv_d (gv_x (gv_s (P b) (P a)) (gv_s (P c) (P a))) (gv_s (P d) (P a)) ≠ 0
theorem hf_so_use {n : Nat} {P : Nat → gv_V} (h : hf_so n P) (p w : gv_V) (hw : ∀ i, i < n → gv_d w (gv_s (P i) p) = 0) : gv_d w w = 0 := by
  obtain ⟨a, b, c, d, ha, hb, hc, hd, h0⟩ := h
  have ea := hw a ha
  have eb := hw b hb
  have ec := hw c hc
  have ed := hw d hd
  rw [gv_ds] at ea eb ec ed
  have e : ∀ u v q : gv_V, gv_d (gv_x u v) q * gv_d w w = gv_d w u * gv_d (gv_x v q) w + gv_d w v * gv_d (gv_x q u) w + gv_d w q * gv_d (gv_x u v) w := by
    intro u v q
    simp only [gv_d, gv_x]; grobner
  have e1 := e (gv_s (P b) (P a)) (gv_s (P c) (P a)) (gv_s (P d) (P a))
  have z1 : gv_d w (gv_s (P b) (P a)) = 0 := by rw [gv_ds]; omega
  have z2 : gv_d w (gv_s (P c) (P a)) = 0 := by rw [gv_ds]; omega
  have z3 : gv_d w (gv_s (P d) (P a)) = 0 := by rw [gv_ds]; omega
  rw [z1, z2, z3, Int.zero_mul, Int.zero_mul, Int.zero_mul] at e1
  rcases Int.mul_eq_zero.mp (e1.trans (show ((0 : Int) + 0 + 0) = 0 from rfl)) with h | h
  · exact absurd h h0
  · exact h
theorem hf_so_of {n F : Nat} {P N : Nat → gv_V} {L : Nat → Int} {B : Nat → Nat → Bool} (H : hf_FL n P F N L B) (h : 0 < F) : hf_so n P := by
  obtain ⟨hle, hB, hnc, hst, _⟩ := H
  obtain ⟨a, b, c, ha, hb, hc, fa, fb, fc, nc⟩ := hnc 0 h
  obtain ⟨d, hd, dl⟩ := hst 0 h
  have ea := (hB 0 h a ha).mp fa
  have eb := (hB 0 h b hb).mp fb
  have ec := (hB 0 h c hc).mp fc
  refine ⟨a, b, c, d, ha, hb, hc, hd, fun e => ?_⟩
  have dd : gv_d (N 0) (gv_s (P d) (P a)) ≠ 0 := by rw [gv_ds]; omega
  exact dd ((gv_par (N 0) (gv_s (P b) (P a)) (gv_s (P c) (P a)) (gv_s (P d) (P a)) (by rw [gv_ds]; omega) (by rw [gv_ds]; omega) nc dd _).mpr e)
-- some facet plane exists
set_option maxHeartbeats 2000000 in
theorem hf_some {n F : Nat} {P : Nat → gv_V} {B : Nat → Nat → Bool} (C : hf_CP n P F B) (so : hf_so n P) : 0 < F := by
  have hn : 0 < n := by obtain ⟨a, _, _, _, ha, _⟩ := so; omega
  obtain ⟨p, hp, _, hmin⟩ := hr_max (fun _ => True) (fun a b => (P a).1 ≤ (P b).1) (fun a b _ _ => Int.le_total _ _) (fun a b c _ _ _ h1 h2 => Int.le_trans h1 h2) n ⟨0, hn, trivial⟩
  have hc : ∃ c, c < n ∧ gv_d (-1, 0, 0) (gv_s (P c) (P p)) < 0 := by
    apply Classical.byContradiction
    intro hn
    have := hf_so_use so (P p) (1, 0, 0) (fun i hi => Classical.byContradiction fun h => hn ⟨i, hi, by
      have h1 : (P p).1 ≤ (P i).1 := hmin i hi trivial
      simp only [gv_d, gv_s] at h ⊢
      omega⟩)
    simp [gv_d] at this
  obtain ⟨c, hc, cl⟩ := hc
  obtain ⟨q, r, w, hq, hr, wq, wr, nc, hw, wc⟩ := hr_dr n (fun i => gv_s (P i) (P p)) (-1, 0, 0) c (fun i hi => by
      have h1 : (P p).1 ≤ (P i).1 := hmin i hi trivial
      simp only [gv_d, gv_s]
      omega) hc cl (fun w hw => hf_so_use so (P p) w hw)
  (try dsimp only at *)
  obtain ⟨f, hf, _⟩ := C w (gv_d w (P p)) (fun i hi => by have := hw i hi; rw [gv_ds] at this; omega) ⟨c, hc, by rw [gv_ds] at wc; omega⟩ p q r hp hq hr rfl (by rw [gv_ds] at wq; omega) (by rw [gv_ds] at wr; omega) nc
  omega
theorem hf_same {n F : Nat} {P N : Nat → gv_V} {L : Nat → Int} {B : Nat → Nat → Bool} (H : hf_FL n P F N L B) {f g : Nat} (hf : f < F) (hg : g < F) {i j k : Nat} (hi : i < n) (hj : j < n) (hk : k < n)
    (fi : B f i = true) (fj : B f j = true) (fk : B f k = true) (gi : B g i = true) (gj : B g j = true) (gk : B g k = true) (nc : hf_nc (P i) (P j) (P k)) : f = g := by
  obtain ⟨hle, hB, hnc, hst, hdis⟩ := H
  refine hdis f g hf hg fun x hx => ?_
  have key : ∀ f, f < F → B f i = true → B f j = true → B f k = true → (B f x = true ↔ gv_d (gv_x (gv_s (P j) (P i)) (gv_s (P k) (P i))) (gv_s (P x) (P i)) = 0) := by
    intro f hf fi fj fk
    have ei := (hB f hf i hi).mp fi
    have ej := (hB f hf j hj).mp fj
    have ek := (hB f hf k hk).mp fk
    obtain ⟨d, hd, hdl⟩ := hst f hf
    have hp := gv_par (N f) (gv_s (P j) (P i)) (gv_s (P k) (P i)) (gv_s (P d) (P i)) (by rw [gv_ds]; omega) (by rw [gv_ds]; omega) nc (by rw [gv_ds]; omega) (gv_s (P x) (P i))
    rw [hB f hf x hx, ← hp, gv_ds]
    constructor
    · intro h; omega
    · intro h; omega
  exact Bool.eq_iff_iff.mpr ((key f hf fi fj fk).trans (key g hg gi gj gk).symm)
/-! no more than 2n - 4 of them -/
def hf_pt (p v a b : gv_V) : gv_V := gv_a (gv_c (gv_d p a - gv_d p v) (gv_s b v)) (gv_c (gv_d p v - gv_d p b) (gv_s a v))
theorem hf_pt_d (m p v a b : gv_V) : gv_d m (hf_pt p v a b) = (gv_d p a - gv_d p v) * (gv_d m b - gv_d m v) + (gv_d p v - gv_d p b) * (gv_d m a - gv_d m v) := by
  simp only [hf_pt, gv_dar, gv_dcr, gv_ds]
def hf_md (n : Nat) (P : Nat → gv_V) (B : Nat → Nat → Bool) (p : gv_V) (f v : Nat) : Prop :=
  v < n ∧ B f v = true ∧ ∃ a b, a < n ∧ b < n ∧ B f a = true ∧ B f b = true ∧ gv_d p (P v) < gv_d p (P a) ∧ gv_d p (P b) < gv_d p (P v) ∧ hf_nc (P v) (P a) (P b)
theorem hf_mid {n F : Nat} {P N : Nat → gv_V} {L : Nat → Int} {B : Nat → Nat → Bool} (H : hf_FL n P F N L B) {f g : Nat} (hf : f < F) (hg : g < F) (hfg : f ≠ g) {v a b : Nat} (hv : v < n) (ha : a < n) (hb : b < n)
    (fv : B f v = true) (fa : B f a = true) (fb : B f b = true) (gv : B g v = true) (p : gv_V) (pa : gv_d p (P v) < gv_d p (P a)) (pb : gv_d p (P b) < gv_d p (P v)) (nc : hf_nc (P v) (P a) (P b)) :
    gv_d (N g) (hf_pt p (P v) (P a) (P b)) < 0 := by
  have H' := H
  obtain ⟨hle, hB, hnc, hst, hdis⟩ := H'
  have e := (hB g hg v hv).mp gv
  have la := hle g hg a ha
  have lb := hle g hg b hb
  rw [hf_pt_d]
  by_cases hx : gv_d (N g) (P a) = L g
  · have hy : gv_d (N g) (P b) ≠ L g := fun hy => hfg (hf_same H hf hg hv ha hb fv fa fb gv ((hB g hg a ha).mpr hx) ((hB g hg b hb).mpr hy) nc)
    have m1 := Int.mul_neg_of_pos_of_neg (show 0 < gv_d p (P a) - gv_d p (P v) by omega) (show gv_d (N g) (P b) - gv_d (N g) (P v) < 0 by omega)
    have m2 := Int.mul_nonpos_of_nonneg_of_nonpos (show 0 ≤ gv_d p (P v) - gv_d p (P b) by omega) (show gv_d (N g) (P a) - gv_d (N g) (P v) ≤ 0 by omega)
    omega
  · have m1 := Int.mul_nonpos_of_nonneg_of_nonpos (show 0 ≤ gv_d p (P a) - gv_d p (P v) by omega) (show gv_d (N g) (P b) - gv_d (N g) (P v) ≤ 0 by omega)
    have m2 := Int.mul_neg_of_pos_of_neg (show 0 < gv_d p (P v) - gv_d p (P b) by omega) (show gv_d (N g) (P a) - gv_d (N g) (P v) < 0 by omega)
    omega
set_option maxHeartbeats 2000000 in
theorem hf_two {n F : Nat} {P N : Nat → gv_V} {L : Nat → Int} {B : Nat → Nat → Bool} (H : hf_FL n P F N L B) (p : gv_V) {f g h v : Nat} (hf : f < F) (hg : g < F) (hh : h < F) (fg : f ≠ g) (fh : f ≠ h) (gh : g ≠ h)
    (mf : hf_md n P B p f v) (mg : hf_md n P B p g v) (mh : hf_md n P B p h v) : False := by
  obtain ⟨hv, fv, a1, b1, ha1, hb1, fa1, fb1, pa1, pb1, nc1⟩ := mf
  obtain ⟨_, gv, a2, b2, ha2, hb2, ga2, gb2, pa2, pb2, nc2⟩ := mg
  obtain ⟨_, hv', a3, b3, ha3, hb3, ha3', hb3', pa3, pb3, nc3⟩ := mh
  obtain ⟨hle, hB, hnc, hst, hdis⟩ := id H
  have z : ∀ f a b, f < F → a < n → b < n → B f v = true → B f a = true → B f b = true → gv_d (N f) (hf_pt p (P v) (P a) (P b)) = 0 := by
    intro f a b hf ha hb fv fa fb
    rw [hf_pt_d, (hB f hf v hv).mp fv, (hB f hf a ha).mp fa, (hB f hf b hb).mp fb, Int.sub_self, Int.mul_zero, Int.mul_zero] <;> rfl
  have zp : ∀ a b : gv_V, gv_d p (hf_pt p (P v) a b) = 0 := by
    intro a b
    rw [hf_pt_d]; grobner
  refine gv_tri (N f) (N g) (N h) p (hf_pt p (P v) (P a1) (P b1)) (hf_pt p (P v) (P a2) (P b2)) (hf_pt p (P v) (P a3) (P b3)) (gv_s (P a1) (P v))
    (z f a1 b1 hf ha1 hb1 fv fa1 fb1) (zp _ _) (hf_mid H hf hg fg hv ha1 hb1 fv fa1 fb1 gv p pa1 pb1 nc1) (hf_mid H hf hh fh hv ha1 hb1 fv fa1 fb1 hv' p pa1 pb1 nc1)
    (z g a2 b2 hg ha2 hb2 gv ga2 gb2) (zp _ _) (hf_mid H hg hf (Ne.symm fg) hv ha2 hb2 gv ga2 gb2 fv p pa2 pb2 nc2) (hf_mid H hg hh gh hv ha2 hb2 gv ga2 gb2 hv' p pa2 pb2 nc2)
    (z h a3 b3 hh ha3 hb3 hv' ha3' hb3') (zp _ _) (hf_mid H hh hf (Ne.symm fh) hv ha3 hb3 hv' ha3' hb3' fv p pa3 pb3 nc3) (hf_mid H hh hg (Ne.symm gh) hv ha3 hb3 hv' ha3' hb3' gv p pa3 pb3 nc3) ?_ ?_
  · rw [gv_ds, (hB f hf v hv).mp fv, (hB f hf a1 ha1).mp fa1, Int.sub_self]
  · rw [gv_ds]; omega
theorem hf_hasmd {n F : Nat} {P N : Nat → gv_V} {L : Nat → Int} {B : Nat → Nat → Bool} (H : hf_FL n P F N L B) (p : gv_V) (inj : ∀ i j, i < n → j < n → P i ≠ P j → gv_d p (P i) ≠ gv_d p (P j)) {f : Nat} (hf : f < F) : ∃ v, hf_md n P B p f v := by
  obtain ⟨hle, hB, hnc, hst, hdis⟩ := H
  obtain ⟨a, b, c, ha, hb, hc, fa, fb, fc, nc⟩ := hnc f hf
  have nab := inj a b ha hb (hf_nc_ne nc)
  have nac := inj a c ha hc (hf_nc_ne (hf_nc2 nc))
  have nbc := inj b c hb hc (hf_nc_ne (hf_nc2 (hf_nc1 nc)))
  rcases Int.lt_or_gt_of_ne nab with h1 | h1 <;> rcases Int.lt_or_gt_of_ne nac with h2 | h2 <;> rcases Int.lt_or_gt_of_ne nbc with h3 | h3
  · exact ⟨b, hb, fb, c, a, hc, ha, fc, fa, h3, h1, hf_nc2 (hf_nc1 nc)⟩
  · exact ⟨c, hc, fc, b, a, hb, ha, fb, fa, h3, h2, hf_nc2 (hf_nc1 (hf_nc2 nc))⟩
  · exact absurd h1 (by omega)
  · exact ⟨a, ha, fa, b, c, hb, hc, fb, fc, h1, h2, nc⟩
  · exact ⟨a, ha, fa, c, b, hc, hb, fc, fb, h2, h1, hf_nc2 nc⟩
  · exact absurd h1 (by omega)
  · exact ⟨c, hc, fc, a, b, ha, hb, fa, fb, h2, h3, hf_nc1 (hf_nc2 nc)⟩
  · exact ⟨b, hb, fb, a, c, ha, hc, fa, fc, h1, h3, hf_nc1 nc⟩
set_option maxHeartbeats 2000000 in
theorem hf_cap {n F : Nat} {P N : Nat → gv_V} {L : Nat → Int} {B : Nat → Nat → Bool} (H : hf_FL n P F N L B) (p : gv_V) (inj : ∀ i j, i < n → j < n → P i ≠ P j → gv_d p (P i) ≠ gv_d p (P j)) : F = 0 ∨ F + 4 ≤ 2 * n := by
  by_cases hF : F = 0
  · exact Or.inl hF
  right
  have hex : ∀ f, ∃ v, f < F → hf_md n P B p f v := by
    intro f
    by_cases hf : f < F
    · obtain ⟨v, hv⟩ := hf_hasmd H p inj hf
      exact ⟨v, fun _ => hv⟩
    · exact ⟨0, fun h => absurd h hf⟩
  obtain ⟨w, hw⟩ := Classical.axiomOfChoice hex
  have h0 : hf_md n P B p 0 (w 0) := hw 0 (by omega)
  have hn : 0 < n := by have := h0.1; omega
  obtain ⟨t, ht, _, htop⟩ := hr_max (fun _ => True) (fun a b => gv_d p (P b) ≤ gv_d p (P a)) (fun a b _ _ => Int.le_total _ _) (fun a b c _ _ _ h1 h2 => Int.le_trans h2 h1) n ⟨0, hn, trivial⟩
  obtain ⟨b, hb, _, hbot⟩ := hr_max (fun _ => True) (fun a b => gv_d p (P a) ≤ gv_d p (P b)) (fun a b _ _ => Int.le_total _ _) (fun a b c _ _ _ h1 h2 => Int.le_trans h1 h2) n ⟨0, hn, trivial⟩
  have tb : t ≠ b := by
    intro e
    obtain ⟨hv, _, a1, _, ha1, _, _, _, pa1, _⟩ := h0
    have e1 : gv_d p (P a1) ≤ gv_d p (P t) := htop a1 ha1 trivial
    have e2 : gv_d p (P b) ≤ gv_d p (P (w 0)) := hbot (w 0) hv trivial
    rw [e] at e1
    omega
  have ct : hs_c (fun f => w f == t) F = 0 := by
    refine hs_c_zero F fun f hf h => ?_
    obtain ⟨hv, _, a1, _, ha1, _, _, _, pa1, _⟩ := hw f hf
    have e : w f = t := by simpa using h
    have e1 : gv_d p (P a1) ≤ gv_d p (P t) := htop a1 ha1 trivial
    rw [e] at pa1
    omega
  have cb : hs_c (fun f => w f == b) F = 0 := by
    refine hs_c_zero F fun f hf h => ?_
    obtain ⟨hv, _, a1, b1, ha1, hb1, _, _, pa1, pb1, _⟩ := hw f hf
    have e : w f = b := by simpa using h
    have e1 : gv_d p (P b) ≤ gv_d p (P b1) := hbot b1 hb1 trivial
    rw [e] at pb1
    omega
  have c2 : ∀ v, v < n → hs_c (fun f => w f == v) F ≤ 2 := by
    intro v hv
    apply Classical.byContradiction
    intro hgt
    obtain ⟨f, g, h, hf, hg, hh, ef, eg, eh, fg, fh, gh⟩ := hs_c3_out (p := fun f => w f == v) (k := F) (by omega)
    have ef' : w f = v := by simpa using ef
    have eg' : w g = v := by simpa using eg
    have eh' : w h = v := by simpa using eh
    have mf := hw f hf
    have mg := hw g hg
    have mh := hw h hh
    rw [ef'] at mf
    rw [eg'] at mg
    rw [eh'] at mh
    exact hf_two H p hf hg hh fg fh gh mf mg mh
  have s1 := hs_cap (fun v => hs_c (fun f => w f == v) F) t b tb ct cb n c2
  rw [hs_fib w n F (fun f hf => (hw f hf).1), if_pos ht, if_pos hb] at s1
  omega
end
section
/-! corners and edges -/
def he_w (F : Nat) (B : Nat → Nat → Bool) (a b : Nat) : Nat := hs_c (fun f => B f a && B f b) F
theorem he_w_comm (F : Nat) (B : Nat → Nat → Bool) (a b : Nat) : he_w F B a b = he_w F B b a :=
  hs_c_congr F fun f _ => Bool.and_comm _ _
theorem he_and {x y : Bool} (h : (x && y) = true) : x = true ∧ y = true := by simpa using h
theorem he_and' {x y : Bool} (h : x = true) (h2 : y = true) : (x && y) = true := by rw [h, h2] <;> rfl
-- a facet plane holds a point off any line of two of its points
theorem he_off {n F : Nat} {P N : Nat → gv_V} {L : Nat → Int} {B : Nat → Nat → Bool} (H : hf_FL n P F N L B) {f : Nat} (hf : f < F) {i j : Nat} (ij : P i ≠ P j) : ∃ x, x < n ∧ B f x = true ∧ hf_nc (P i) (P j) (P x) := by
  obtain ⟨hle, hB, hnc, hst, hdis⟩ := H
  obtain ⟨a, b, c, ha, hb, hc, fa, fb, fc, nc⟩ := hnc f hf
  apply Classical.byContradiction
  intro hn
  have z : ∀ x, x < n → B f x = true → ∀ q, gv_d (gv_x (gv_s (P j) (P i)) (gv_s (P x) (P i))) q = 0 := by
    intro x hx fx q
    refine gv_z ?_ q
    apply Classical.byContradiction
    intro h
    exact hn ⟨x, hx, fx, h⟩
  have za := z a ha fa
  have zb := z b hb fb
  have zc := z c hc fc
  have sp : ∀ x q : gv_V, gv_d (gv_x (gv_s (P j) (P i)) (gv_s x (P a))) q = gv_d (gv_x (gv_s (P j) (P i)) (gv_s x (P i))) q - gv_d (gv_x (gv_s (P j) (P i)) (gv_s (P a) (P i))) q := by
    intro x q
    simp only [gv_d, gv_x, gv_s]; grobner
  have pb : ∀ q, gv_d (gv_x (gv_s (P j) (P i)) (gv_s (P b) (P a))) q = 0 := fun q => by rw [sp, zb, za] <;> rfl
  have pc : ∀ q, gv_d (gv_x (gv_s (P j) (P i)) (gv_s (P c) (P a))) q = 0 := fun q => by rw [sp, zc, za] <;> rfl
  have e : ∀ u p r q : gv_V, gv_d u u * gv_d (gv_x p r) q = gv_d u p * gv_d (gv_x u r) q - gv_d (gv_x u p) (gv_x (gv_x r q) u) := by
    intro u p r q
    simp only [gv_d, gv_x]; grobner
  have e1 := e (gv_s (P j) (P i)) (gv_s (P b) (P a)) (gv_s (P c) (P a)) (gv_x (gv_s (P b) (P a)) (gv_s (P c) (P a)))
  rw [pb, pc, Int.mul_zero, Int.sub_self] at e1
  rcases Int.mul_eq_zero.mp e1 with h | h
  · exact hf_sub0 ij h
  · exact nc h
-- at most two facet planes hold two different points
set_option maxHeartbeats 2000000 in
theorem he_l3 {n F : Nat} {P N : Nat → gv_V} {L : Nat → Int} {B : Nat → Nat → Bool} (H : hf_FL n P F N L B) {f g h : Nat} (hf : f < F) (hg : g < F) (hh : h < F) (fg : f ≠ g) (fh : f ≠ h) (gh : g ≠ h) {i j : Nat} (hi : i < n) (hj : j < n) (ij : P i ≠ P j)
    (fi : B f i = true) (fj : B f j = true) (gi : B g i = true) (gj : B g j = true) (hi' : B h i = true) (hj' : B h j = true) : False := by
  obtain ⟨hle, hB, hnc, hst, hdis⟩ := id H
  obtain ⟨x, hx, fx, ncx⟩ := he_off H hf (i := i) (j := j) ij
  obtain ⟨y, hy, gy, ncy⟩ := he_off H hg (i := i) (j := j) ij
  obtain ⟨z, hz, hz', ncz⟩ := he_off H hh (i := i) (j := j) ij
  have u0 := hf_sub0 ij
  have up : 0 < gv_d (gv_s (P j) (P i)) (gv_s (P j) (P i)) := by have := gv_nn (gv_s (P j) (P i)); omega
  have ax : ∀ f, f < F → B f i = true → B f j = true → gv_d (N f) (gv_s (P j) (P i)) = 0 := by
    intro f hf fi fj
    rw [gv_ds, (hB f hf i hi).mp fi, (hB f hf j hj).mp fj, Int.sub_self]
  have lt : ∀ f g x, f < F → g < F → f ≠ g → x < n → B f i = true → B f j = true → B f x = true → B g i = true → B g j = true → hf_nc (P i) (P j) (P x) → gv_d (N g) (gv_s (P x) (P i)) < 0 := by
    intro f g x hf hg fg hx fi fj fx gi gj nc
    have h1 := hle g hg x hx
    have h2 := (hB g hg i hi).mp gi
    have h3 : gv_d (N g) (P x) ≠ L g := fun h => fg (hf_same H hf hg hi hj hx fi fj fx gi gj ((hB g hg x hx).mpr h) nc)
    rw [gv_ds]; omega
  have eq0 : ∀ f x, f < F → x < n → B f i = true → B f x = true → gv_d (N f) (gv_s (P x) (P i)) = 0 := by
    intro f x hf hx fi fx
    rw [gv_ds, (hB f hf i hi).mp fi, (hB f hf x hx).mp fx, Int.sub_self]
  have pd : ∀ m x : gv_V, gv_d m (gv_s (gv_c (gv_d (gv_s (P j) (P i)) (gv_s (P j) (P i))) x) (gv_c (gv_d (gv_s (P j) (P i)) x) (gv_s (P j) (P i)))) = gv_d (gv_s (P j) (P i)) (gv_s (P j) (P i)) * gv_d m x - gv_d (gv_s (P j) (P i)) x * gv_d m (gv_s (P j) (P i)) := by
    intro m x
    rw [gv_ds, gv_dcr, gv_dcr]
  have pz : ∀ f x, f < F → x < n → B f i = true → B f j = true → B f x = true → gv_d (N f) (gv_s (gv_c (gv_d (gv_s (P j) (P i)) (gv_s (P j) (P i))) (gv_s (P x) (P i))) (gv_c (gv_d (gv_s (P j) (P i)) (gv_s (P x) (P i))) (gv_s (P j) (P i)))) = 0 := by
    intro f x hf hx fi fj fx
    rw [pd, ax f hf fi fj, eq0 f x hf hx fi fx, Int.mul_zero, Int.mul_zero, Int.sub_self]
  have pl : ∀ f g x, f < F → g < F → f ≠ g → x < n → B f i = true → B f j = true → B f x = true → B g i = true → B g j = true → hf_nc (P i) (P j) (P x) → gv_d (N g) (gv_s (gv_c (gv_d (gv_s (P j) (P i)) (gv_s (P j) (P i))) (gv_s (P x) (P i))) (gv_c (gv_d (gv_s (P j) (P i)) (gv_s (P x) (P i))) (gv_s (P j) (P i)))) < 0 := by
    intro f g x hf hg fg hx fi fj fx gi gj nc
    rw [pd, ax g hg gi gj, Int.mul_zero, Int.sub_zero]
    exact Int.mul_neg_of_pos_of_neg up (lt f g x hf hg fg hx fi fj fx gi gj nc)
  have pu : ∀ x : gv_V, gv_d (gv_s (P j) (P i)) (gv_s (gv_c (gv_d (gv_s (P j) (P i)) (gv_s (P j) (P i))) x) (gv_c (gv_d (gv_s (P j) (P i)) x) (gv_s (P j) (P i)))) = 0 := by
    intro x
    rw [pd, Int.mul_comm, Int.sub_self]
  exact gv_tri (N f) (N g) (N h) (gv_s (P j) (P i)) _ _ _ (gv_s (P j) (P i))
    (pz f x hf hx fi fj fx) (pu _) (pl f g x hf hg fg hx fi fj fx gi gj ncx) (pl f h x hf hh fh hx fi fj fx hi' hj' ncx)
    (pz g y hg hy gi gj gy) (pu _) (pl g f y hg hf (Ne.symm fg) hy gi gj gy fi fj ncy) (pl g h y hg hh gh hy gi gj gy hi' hj' ncy)
    (pz h z hh hz hi' hj' hz') (pu _) (pl h f z hh hf (Ne.symm fh) hz hi' hj' hz' fi fj ncz) (pl h g z hh hg (Ne.symm gh) hz hi' hj' hz' gi gj ncz)
    (ax f hf fi fj) u0
-- a corner of a facet: a functional below nothing on all other points of the facet
theorem he_psi {n F : Nat} {P N : Nat → gv_V} {L : Nat → Int} {B : Nat → Nat → Bool} (H : hf_FL n P F N L B) (dist : ∀ i j, i < n → j < n → i ≠ j → P i ≠ P j) {f v : Nat} (hf : f < F) (hv : v < n) (fv : B f v = true) (cv : 3 ≤ he_w F B v v) :
    ∃ p : gv_V, ∀ q, q < n → B f q = true → q ≠ v → gv_d p (gv_s (P q) (P v)) < 0 := by
  obtain ⟨hle, hB, hnc, hst, hdis⟩ := id H
  obtain ⟨g, h, hg, hh, pg, ph, gf, hf', gh⟩ := hs_c3_two cv f
  have gv := (he_and pg).1
  have hv' := (he_and ph).1
  refine ⟨gv_a (N g) (N h), fun q hq fq qv => ?_⟩
  have e1 := (hB g hg v hv).mp gv
  have e2 := (hB h hh v hv).mp hv'
  have l1 := hle g hg q hq
  have l2 := hle h hh q hq
  rw [gv_dal, gv_ds, gv_ds]
  apply Classical.byContradiction
  intro hn
  exact he_l3 H hf hg hh (Ne.symm gf) (Ne.symm hf') gh hv hq (dist v q hv hq (Ne.symm qv)) fv fq gv ((hB g hg q hq).mpr (by omega)) hv' ((hB h hh q hq).mpr (by omega))
theorem he_selfx (M a p : gv_V) : gv_d M (gv_x a (gv_s p p)) = 0 := by simp only [gv_d, gv_x, gv_s]; grobner
-- the next corner of a facet, on one side of a corner
set_option maxHeartbeats 2000000 in
theorem he_ex {n F : Nat} {P N : Nat → gv_V} {L : Nat → Int} {B : Nat → Nat → Bool} (H : hf_FL n P F N L B) (C : hf_CP n P F B) (dist : ∀ i j, i < n → j < n → i ≠ j → P i ≠ P j) {f v : Nat} (hf : f < F) (hv : v < n) (fv : B f v = true) (cv : 3 ≤ he_w F B v v)
    (M : gv_V) (hM : ∀ r, r < n → B f r = true → gv_d M (gv_s (P r) (P v)) = 0) (M0 : gv_d M M ≠ 0) :
    ∃ b, b < n ∧ b ≠ v ∧ B f b = true ∧ 3 ≤ he_w F B b b ∧ 2 ≤ he_w F B v b ∧ ∀ r, r < n → B f r = true → 0 ≤ gv_d M (gv_x (gv_s (P b) (P v)) (gv_s (P r) (P v))) := by
  obtain ⟨hle, hB, hnc, hst, hdis⟩ := id H
  obtain ⟨p, hp⟩ := he_psi H dist hf hv fv cv
  have so := hf_so_of H (by omega : 0 < F)
  have ne : ∃ i, i < n ∧ (i < n ∧ i ≠ v ∧ B f i = true) := by
    obtain ⟨a, b, c, ha, hb, hc, fa, fb, fc, nc⟩ := hnc f hf
    by_cases e : a = v
    · refine ⟨b, hb, hb, fun e2 => ?_, fb⟩
      exact hf_nc_ne nc (by rw [e, e2])
    · exact ⟨a, ha, ha, e, fa⟩
  obtain ⟨b, hb, ⟨_, bv, fb⟩, hmx⟩ := hr_max (fun i => i < n ∧ i ≠ v ∧ B f i = true)
    (fun b r => 0 < gv_d M (gv_x (gv_s (P b) (P v)) (gv_s (P r) (P v))) ∨ (gv_d M (gv_x (gv_s (P b) (P v)) (gv_s (P r) (P v))) = 0 ∧ gv_d p (gv_s (P b) (P v)) ≤ gv_d p (gv_s (P r) (P v))))
    (fun a b _ _ => by
      (try dsimp only)
      rw [gv_antr M (gv_s (P b) (P v)) (gv_s (P a) (P v))]
      omega)
    (fun a b c sa sb sc h1 h2 => by
      (try dsimp only at *)
      have pa := hp a sa.1 sa.2.2 sa.2.1
      have pb := hp b sb.1 sb.2.2 sb.2.1
      have pc := hp c sc.1 sc.2.2 sc.2.1
      have e := gv_2d M p (gv_s (P a) (P v)) (gv_s (P b) (P v)) (gv_s (P c) (P v)) M0 (hM a sa.1 sa.2.2) (hM b sb.1 sb.2.2) (hM c sc.1 sc.2.2)
      generalize gv_d M (gv_x (gv_s (P a) (P v)) (gv_s (P c) (P v))) = ac at *
      generalize gv_d M (gv_x (gv_s (P a) (P v)) (gv_s (P b) (P v))) = ab at *
      generalize gv_d M (gv_x (gv_s (P b) (P v)) (gv_s (P c) (P v))) = bc at *
      generalize gv_d p (gv_s (P a) (P v)) = xa at *
      generalize gv_d p (gv_s (P b) (P v)) = xb at *
      generalize gv_d p (gv_s (P c) (P v)) = xc at *
      have g1 : 0 ≤ ab := by omega
      have g2 : 0 ≤ bc := by omega
      rcases h1 with h1 | h1
      · left
        have t1 := Int.mul_neg_of_neg_of_pos pc h1
        have t2 := Int.mul_nonpos_of_nonpos_of_nonneg (Int.le_of_lt pa) g2
        have t3 : xb * ac < 0 := by omega
        exact Classical.byContradiction fun hn => by
          have := Int.mul_nonneg_of_nonpos_of_nonpos (Int.le_of_lt pb) (show ac ≤ 0 by omega)
          omega
      · rcases h2 with h2 | h2
        · left
          have t1 := Int.mul_neg_of_neg_of_pos pa h2
          have t2 := Int.mul_nonpos_of_nonpos_of_nonneg (Int.le_of_lt pc) g1
          have t3 : xb * ac < 0 := by omega
          exact Classical.byContradiction fun hn => by
            have := Int.mul_nonneg_of_nonpos_of_nonpos (Int.le_of_lt pb) (show ac ≤ 0 by omega)
            omega
        · right
          rw [h1.1, h2.1, Int.mul_zero, Int.mul_zero] at e
          rcases Int.mul_eq_zero.mp (e.trans (by rfl : (0 : Int) + 0 = 0)) with h | h
          · omega
          · exact ⟨h, by omega⟩)
    n ne
  (try dsimp only at hmx)
  have hD : ∀ r, r < n → B f r = true → 0 ≤ gv_d M (gv_x (gv_s (P b) (P v)) (gv_s (P r) (P v))) := by
    intro r hr fr
    by_cases e : r = v
    · rw [e, he_selfx]; exact Int.le_refl _
    · have := hmx r hr ⟨hr, e, fr⟩; omega
  have pbn := hp b hb fb bv
  have Pvb : P v ≠ P b := dist v b hv hb (Ne.symm bv)
  obtain ⟨x, hx, fx, ncx⟩ := he_off H hf (i := v) (j := b) Pvb
  have Dx : 0 < gv_d M (gv_x (gv_s (P b) (P v)) (gv_s (P x) (P v))) := by
    have h1 := hD x hx fx
    have h2 : gv_d M (gv_x (gv_s (P b) (P v)) (gv_s (P x) (P v))) ≠ 0 := fun h => ncx (gv_flat M _ _ M0 (hM b hb fb) (hM x hx fx) h)
    omega
  have ev := (hB f hf v hv).mp fv
  have eb := (hB f hf b hb).mp fb
  have ex := (hB f hf x hx).mp fx
  obtain ⟨K, K0, hK⟩ := hs_bd (fun r => - gv_d M (gv_x (gv_s (P b) (P v)) (gv_s (P r) (P v)))) n
  have md : ∀ q : gv_V, gv_d (gv_s (gv_c K (N f)) (gv_x M (gv_s (P b) (P v)))) q = K * gv_d (N f) q - gv_d M (gv_x (gv_s (P b) (P v)) q) := by
    intro q
    rw [gv_dsl, gv_dcl, gv_cyc]
  obtain ⟨q, w, hq, wb, wq, ncq, hw, wx⟩ := hr_rot n (fun i => gv_s (P i) (P v)) (gv_s (gv_c K (N f)) (gv_x M (gv_s (P b) (P v)))) (gv_s (P b) (P v)) x (hf_sub0 Pvb)
    (by
      rw [md, gv_ds, ev, eb, Int.sub_self, Int.mul_zero, gv_cyc, gv_xr] <;> rfl)
    (fun i hi => by
      (try dsimp only)
      rw [md]
      have k1 := hK i hi
      (try dsimp only at k1)
      by_cases fi : B f i = true
      · have k2 := hD i hi fi
        have ei := (hB f hf i hi).mp fi
        rw [gv_ds (N f), ev, ei, Int.sub_self, Int.mul_zero]
        omega
      · have k3 := hle f hf i hi
        have k4 : gv_d (N f) (P i) ≠ L f := fun h => fi ((hB f hf i hi).mpr h)
        have k5 := Int.mul_le_mul_of_nonneg_left (show gv_d (N f) (gv_s (P i) (P v)) ≤ -1 by rw [gv_ds]; omega) K0
        omega)
    hx
    (by
      (try dsimp only)
      rw [md, gv_ds (N f), ev, ex, Int.sub_self, Int.mul_zero]
      omega)
    (fun w hw => hf_so_use so (P v) w hw)
  (try dsimp only at *)
  rw [gv_ds] at wb wq wx
  have hw' : ∀ i, i < n → gv_d w (P i) ≤ gv_d w (P v) := by
    intro i hi
    have := hw i hi
    rw [gv_ds] at this
    omega
  obtain ⟨g, hg, gB⟩ := C w (gv_d w (P v)) hw' ⟨x, hx, by omega⟩ v b q hv hb hq rfl (by omega) (by omega) ncq
  have gv := (gB v hv).mpr rfl
  have gb := (gB b hb).mpr (by omega)
  have fg : f ≠ g := by
    intro e
    have := (gB x hx).mp (by rw [← e]; exact fx)
    omega
  obtain ⟨K2, K20, hK2⟩ := hs_bd (fun r => - gv_d p (gv_s (P r) (P b))) n
  have md2 : ∀ q : gv_V, gv_d (gv_s (gv_c K2 (gv_a (N f) w)) p) q = K2 * (gv_d (N f) q + gv_d w q) - gv_d p q := by
    intro q
    rw [gv_dsl, gv_dcl, gv_dal]
  have pv : gv_d p (gv_s (P v) (P b)) = - gv_d p (gv_s (P b) (P v)) := by rw [gv_ds, gv_ds]; omega
  obtain ⟨q3, r3, w3, hq3, hr3, w3q, w3r, nc3, hw3, w3v⟩ := hr_dr n (fun i => gv_s (P i) (P b)) (gv_s (gv_c K2 (gv_a (N f) w)) p) v
    (fun i hi => by
      (try dsimp only)
      rw [md2]
      have k1 := hK2 i hi
      (try dsimp only at k1)
      have k2 := hle f hf i hi
      have k3 := hw' i hi
      by_cases z : gv_d (N f) (gv_s (P i) (P b)) + gv_d w (gv_s (P i) (P b)) = 0
      · rw [z, Int.mul_zero]
        rw [gv_ds, gv_ds] at z
        have fi : B f i = true := (hB f hf i hi).mpr (by omega)
        have gi : B g i = true := (gB i hi).mpr (by omega)
        by_cases e : i = v
        · rw [e, pv]; omega
        · have hc : gv_d (gv_x (gv_s (P b) (P v)) (gv_s (P i) (P v))) (gv_x (gv_s (P b) (P v)) (gv_s (P i) (P v))) = 0 :=
            Classical.byContradiction fun h => fg (hf_same H hf hg hv hb hi fv fb fi gv gb gi h)
          have h0 : gv_d M (gv_x (gv_s (P b) (P v)) (gv_s (P i) (P v))) = 0 := by rw [gv_comm]; exact gv_z hc M
          have h1 := hmx i hi ⟨hi, e, fi⟩
          have h2 : gv_d p (gv_s (P i) (P b)) = gv_d p (gv_s (P i) (P v)) - gv_d p (gv_s (P b) (P v)) := by rw [gv_ds, gv_ds, gv_ds]; omega
          omega
      · have z2 : gv_d (N f) (gv_s (P i) (P b)) + gv_d w (gv_s (P i) (P b)) ≤ -1 := by
          rw [gv_ds, gv_ds] at z ⊢
          omega
        have k5 := Int.mul_le_mul_of_nonneg_left z2 K20
        omega)
    hv
    (by
      (try dsimp only)
      have z : gv_d (N f) (gv_s (P v) (P b)) + gv_d w (gv_s (P v) (P b)) = 0 := by rw [gv_ds, gv_ds]; omega
      rw [md2, z, Int.mul_zero, pv]
      omega)
    (fun w hw => hf_so_use so (P b) w hw)
  (try dsimp only at *)
  rw [gv_ds] at w3q w3r w3v
  obtain ⟨h, hh, hB3⟩ := C w3 (gv_d w3 (P b)) (fun i hi => by
      have := hw3 i hi
      rw [gv_ds] at this
      omega) ⟨v, hv, by omega⟩ b q3 r3 hb hq3 hr3 rfl (by omega) (by omega) nc3
  have hb3 := (hB3 b hb).mpr rfl
  have hv3 : ¬ B h v = true := fun e => by have := (hB3 v hv).mp e; omega
  have fh : f ≠ h := fun e => hv3 (by rw [← e]; exact fv)
  have gh : g ≠ h := fun e => hv3 (by rw [← e]; exact gv)
  exact ⟨b, hb, bv, fb, hs_c3_in hf hg hh (he_and' fb fb) (he_and' gb gb) (he_and' hb3 hb3) fg fh gh, hs_c2_in hf hg (he_and' fv fb) (he_and' gv gb) fg, hD⟩
-- a corner between a corner and another point of one ray: no
theorem he_btw {n F : Nat} {P N : Nat → gv_V} {L : Nat → Int} {B : Nat → Nat → Bool} (H : hf_FL n P F N L B) {v b c : Nat} (hv : v < n) (hb : b < n) (hc : c < n) (vb : P v ≠ P b) (cb : 3 ≤ he_w F B b b) (p : gv_V)
    (pb : gv_d p (gv_s (P b) (P v)) < 0) (pc : gv_d p (gv_s (P c) (P v)) < gv_d p (gv_s (P b) (P v)))
    (col : ∀ q, gv_d p (gv_s (P c) (P v)) * gv_d q (gv_s (P b) (P v)) = gv_d p (gv_s (P b) (P v)) * gv_d q (gv_s (P c) (P v))) : False := by
  obtain ⟨hle, hB, hnc, hst, hdis⟩ := id H
  obtain ⟨f, g, h, hf, hg, hh, pf, pg, ph, fg, fh, gh⟩ := hs_c3_out cb
  have hv' : ∀ f, f < F → (B f b && B f b) = true → B f v = true := by
    intro f hf pf
    have e := (hB f hf b hb).mp (he_and pf).1
    have l1 := hle f hf v hv
    have l2 := hle f hf c hc
    have cq := col (N f)
    have y : gv_d (N f) (gv_s (P b) (P v)) ≤ 0 := by
      apply Classical.byContradiction
      intro hn
      have t1 := Int.mul_le_mul_of_nonpos_left (Int.le_of_lt pb) (show gv_d (N f) (gv_s (P c) (P v)) ≤ gv_d (N f) (gv_s (P b) (P v)) by rw [gv_ds, gv_ds]; omega)
      have t2 := Int.mul_lt_mul_of_pos_right pc (show 0 < gv_d (N f) (gv_s (P b) (P v)) by omega)
      omega
    rw [gv_ds] at y
    exact (hB f hf v hv).mpr (by omega)
  exact he_l3 H hf hg hh fg fh gh hv hb vb (hv' f hf pf) (he_and pf).1 (hv' g hg pg) (he_and pg).1 (hv' h hh ph) (he_and ph).1
set_option maxHeartbeats 2000000 in
theorem he_un {n F : Nat} {P N : Nat → gv_V} {L : Nat → Int} {B : Nat → Nat → Bool} (H : hf_FL n P F N L B) (dist : ∀ i j, i < n → j < n → i ≠ j → P i ≠ P j) {f v : Nat} (hf : f < F) (hv : v < n) (fv : B f v = true) (cv : 3 ≤ he_w F B v v)
    (M : gv_V) (hM : ∀ r, r < n → B f r = true → gv_d M (gv_s (P r) (P v)) = 0) (M0 : gv_d M M ≠ 0) {b c : Nat} (hb : b < n) (hc : c < n) (bv : b ≠ v) (cv' : c ≠ v) (fb : B f b = true) (fc : B f c = true) (cb : 3 ≤ he_w F B b b) (cc : 3 ≤ he_w F B c c)
    (h1 : 0 ≤ gv_d M (gv_x (gv_s (P b) (P v)) (gv_s (P c) (P v)))) (h2 : 0 ≤ gv_d M (gv_x (gv_s (P c) (P v)) (gv_s (P b) (P v)))) : b = c := by
  obtain ⟨p, hp⟩ := he_psi H dist hf hv fv cv
  have pb := hp b hb fb bv
  have pc := hp c hc fc cv'
  rw [gv_antr] at h2
  have z := gv_flat M _ _ M0 (hM b hb fb) (hM c hc fc) (by omega : gv_d M (gv_x (gv_s (P b) (P v)) (gv_s (P c) (P v))) = 0)
  have col : ∀ q, gv_d p (gv_s (P c) (P v)) * gv_d q (gv_s (P b) (P v)) = gv_d p (gv_s (P b) (P v)) * gv_d q (gv_s (P c) (P v)) := by
    intro q
    have e := gv_z z (gv_x q p)
    rw [gv_bc] at e
    rw [gv_comm p, gv_comm p, gv_comm q, gv_comm q]
    have e1 := Int.mul_comm (gv_d (gv_s (P c) (P v)) p) (gv_d (gv_s (P b) (P v)) q)
    have e2 := Int.mul_comm (gv_d (gv_s (P c) (P v)) q) (gv_d (gv_s (P b) (P v)) p)
    omega
  apply Classical.byContradiction
  intro hbc
  rcases Int.lt_trichotomy (gv_d p (gv_s (P c) (P v))) (gv_d p (gv_s (P b) (P v))) with h | h | h
  · exact he_btw H hv hb hc (dist v b hv hb (Ne.symm bv)) cb p pb h col
  · apply dist b c hb hc hbc
    have k : ∀ q, gv_d q (gv_s (P b) (P v)) = gv_d q (gv_s (P c) (P v)) := by
      intro q
      have e := col q
      rw [h] at e
      exact Int.eq_of_mul_eq_mul_left (by omega) e
    have k1 := k (1, 0, 0)
    have k2 := k (0, 1, 0)
    have k3 := k (0, 0, 1)
    simp only [gv_d, gv_s] at k1 k2 k3
    exact Prod.ext (by omega) (Prod.ext (by omega) (by omega))
  · exact he_btw H hv hc hb (dist v c hv hc (Ne.symm cv')) cc p pc h fun q => (col q).symm
-- all points of a facet are on one side of an edge
set_option maxHeartbeats 2000000 in
theorem he_side {n F : Nat} {P N : Nat → gv_V} {L : Nat → Int} {B : Nat → Nat → Bool} (H : hf_FL n P F N L B) {f a b : Nat} (hf : f < F) (ha : a < n) (hb : b < n) (ab : P a ≠ P b) (fa : B f a = true) (fb : B f b = true) (w : 2 ≤ he_w F B a b) :
    (∃ x, x < n ∧ B f x = true ∧ gv_d (N f) (gv_x (gv_s (P b) (P a)) (gv_s (P x) (P a))) ≠ 0) ∧
    ((∀ r, r < n → B f r = true → 0 ≤ gv_d (N f) (gv_x (gv_s (P b) (P a)) (gv_s (P r) (P a)))) ∨ (∀ r, r < n → B f r = true → gv_d (N f) (gv_x (gv_s (P b) (P a)) (gv_s (P r) (P a))) ≤ 0)) := by
  obtain ⟨hle, hB, hnc, hst, hdis⟩ := id H
  have hg : ∃ g, g < F ∧ g ≠ f ∧ B g a = true ∧ B g b = true := by
    obtain ⟨g1, g2, h1, h2, p1, p2, g12⟩ := hs_c2_out w
    by_cases e : g1 = f
    · exact ⟨g2, h2, by omega, (he_and p2).1, (he_and p2).2⟩
    · exact ⟨g1, h1, e, (he_and p1).1, (he_and p1).2⟩
  obtain ⟨g, hg, gf, ga, gb⟩ := hg
  obtain ⟨x, hx, fx, ncx⟩ := he_off H hf (i := a) (j := b) ab
  have ea := (hB f hf a ha).mp fa
  have ga' := (hB g hg a ha).mp ga
  have gb' := (hB g hg b hb).mp gb
  have M0 : gv_d (N f) (N f) ≠ 0 := by
    obtain ⟨d, hd, dl⟩ := hst f hf
    apply gv_ne (q := gv_s (P d) (P a))
    rw [gv_ds]; omega
  have z : ∀ r, r < n → B f r = true → gv_d (N f) (gv_s (P r) (P a)) = 0 := by
    intro r hr fr
    rw [gv_ds, ea, (hB f hf r hr).mp fr, Int.sub_self]
  have Dx : gv_d (N f) (gv_x (gv_s (P b) (P a)) (gv_s (P x) (P a))) ≠ 0 := fun h => ncx (gv_flat (N f) _ _ M0 (z b hb fb) (z x hx fx) h)
  have px : gv_d (N g) (gv_s (P x) (P a)) < 0 := by
    have h1 := hle g hg x hx
    have h2 : gv_d (N g) (P x) ≠ L g := fun h => gf (hf_same H hg hf ha hb hx ga gb ((hB g hg x hx).mpr h) fa fb fx ncx)
    rw [gv_ds]; omega
  have id2 : ∀ r, r < n → B f r = true → gv_d (N g) (gv_s (P x) (P a)) * gv_d (N f) (gv_x (gv_s (P b) (P a)) (gv_s (P r) (P a))) = gv_d (N g) (gv_s (P r) (P a)) * gv_d (N f) (gv_x (gv_s (P b) (P a)) (gv_s (P x) (P a))) := by
    intro r hr fr
    have e := gv_2d (N f) (N g) (gv_s (P b) (P a)) (gv_s (P x) (P a)) (gv_s (P r) (P a)) M0 (z b hb fb) (z x hx fx) (z r hr fr)
    have e0 : gv_d (N g) (gv_s (P b) (P a)) = 0 := by rw [gv_ds, ga', gb', Int.sub_self]
    rw [e0, Int.zero_mul, Int.zero_add] at e
    exact e
  refine ⟨⟨x, hx, fx, Dx⟩, ?_⟩
  rcases Int.lt_or_gt_of_ne Dx with h | h
  · right
    intro r hr fr
    have e := id2 r hr fr
    have pr : gv_d (N g) (gv_s (P r) (P a)) ≤ 0 := by have := hle g hg r hr; rw [gv_ds]; omega
    have t := Int.mul_nonneg_of_nonpos_of_nonpos pr (Int.le_of_lt h)
    exact gv_m5 px (by omega)
  · left
    intro r hr fr
    have e := id2 r hr fr
    have pr : gv_d (N g) (gv_s (P r) (P a)) ≤ 0 := by have := hle g hg r hr; rw [gv_ds]; omega
    have t := Int.mul_nonpos_of_nonpos_of_nonneg pr (Int.le_of_lt h)
    exact gv_m6 px (by omega)
end
section
/-! the fan over a facet does not depend on its hub -/
theorem hs_i_congr {g h : Nat → Int} : ∀ n, (∀ i, i < n → g i = h i) → hs_i g n = hs_i h n := by
  intro n
  induction n with
  | zero => intro _; rfl
  | succ n ih => intro e; simp only [hs_i]; rw [ih fun i hi => e i (by omega), e n (by omega)]
theorem hs_i_add (g h : Nat → Int) : ∀ n, hs_i (fun i => g i + h i) n = hs_i g n + hs_i h n := by
  intro n
  induction n with
  | zero => rfl
  | succ n ih => simp only [hs_i]; rw [ih]; omega
theorem hs_i_sub (g h : Nat → Int) : ∀ n, hs_i (fun i => g i - h i) n = hs_i g n - hs_i h n := by
  intro n
  induction n with
  | zero => rfl
  | succ n ih => simp only [hs_i]; rw [ih]; omega
theorem hs_i_mul (c : Int) (g : Nat → Int) : ∀ n, hs_i (fun i => c * g i) n = c * hs_i g n := by
  intro n
  induction n with
  | zero => exact (Int.mul_zero c).symm
  | succ n ih => simp only [hs_i]; rw [ih, Int.mul_add]
theorem hs_i_zero {g : Nat → Int} : ∀ n, (∀ i, i < n → g i = 0) → hs_i g n = 0 := by
  intro n
  induction n with
  | zero => intro _; rfl
  | succ n ih => intro e; simp only [hs_i]; rw [ih fun i hi => e i (by omega), e n (by omega)] <;> rfl
theorem hs_i_one {g : Nat → Int} {j : Nat} : ∀ n, j < n → g j = 1 → (∀ i, i < n → i ≠ j → g i = 0) → hs_i g n = 1 := by
  intro n
  induction n with
  | zero => intro h; exact absurd h (Nat.not_lt_zero _)
  | succ n ih =>
    intro hj e0 e1
    simp only [hs_i]
    by_cases e : j = n
    · subst e
      rw [hs_i_zero j fun i hi => e1 i (by omega) (by omega), e0] <;> rfl
    · rw [ih (by omega) e0 fun i hi => e1 i (by omega), e1 n (by omega) (fun h => e h.symm)] <;> rfl
theorem hs_i_swap (g : Nat → Nat → Int) (m : Nat) : ∀ n, hs_i (fun a => hs_i (fun b => g a b) m) n = hs_i (fun b => hs_i (fun a => g a b) n) m := by
  intro n
  induction n with
  | zero => exact (hs_i_zero m fun _ _ => rfl).symm
  | succ n ih =>
    have e : hs_i (fun b => hs_i (fun a => g a b) (n + 1)) m = hs_i (fun b => hs_i (fun a => g a b) n + g n b) m := rfl
    rw [e, hs_i_add (fun b => hs_i (fun a => g a b) n) (fun b => g n b), ← ih]
    rfl
theorem hs_tri (G : Nat → Nat → Int) (G0 : ∀ a, G a a = 0) : ∀ n, hs_i (fun a => hs_i (fun b => if a < b then G a b + G b a else 0) n) n = hs_i (fun a => hs_i (fun b => G a b) n) n := by
  intro n
  induction n with
  | zero => rfl
  | succ n ih =>
    have e1 : hs_i (fun a => hs_i (fun b => if a < b then G a b + G b a else 0) (n + 1)) (n + 1) = hs_i (fun a => hs_i (fun b => if a < b then G a b + G b a else 0) n + (if a < n then G a n + G n a else 0)) n + (hs_i (fun b => if n < b then G n b + G b n else 0) n + (if n < n then G n n + G n n else 0)) := rfl
    have e2 : hs_i (fun a => hs_i (fun b => G a b) (n + 1)) (n + 1) = hs_i (fun a => hs_i (fun b => G a b) n + G a n) n + (hs_i (fun b => G n b) n + G n n) := rfl
    rw [e1, e2, hs_i_add (fun a => hs_i (fun b => if a < b then G a b + G b a else 0) n) (fun a => if a < n then G a n + G n a else 0), hs_i_add (fun a => hs_i (fun b => G a b) n) (fun a => G a n), ih, G0, if_neg (Nat.lt_irrefl n)]
    have e3 : hs_i (fun b => if n < b then G n b + G b n else 0) n = 0 := hs_i_zero n fun i hi => if_neg (by omega)
    have e4 : hs_i (fun a => if a < n then G a n + G n a else 0) n = hs_i (fun a => G a n + G n a) n := hs_i_congr n fun i hi => if_pos hi
    rw [e3, e4, hs_i_add (fun a => G a n) (fun a => G n a)]
    omega
noncomputable def hv_ind (p : Prop) : Int := @ite Int p (Classical.propDecidable p) 1 0
theorem hv_ind_t {p : Prop} (h : p) : hv_ind p = 1 := by unfold hv_ind; exact if_pos h
theorem hv_ind_f {p : Prop} (h : ¬ p) : hv_ind p = 0 := by unfold hv_ind; exact if_neg h
theorem gv_par3 (N u v q : gv_V) (hu : gv_d N u = 0) (hv : gv_d N v = 0) : gv_d N N * gv_d (gv_x u v) q = gv_d N (gv_x u v) * gv_d N q := by
  have e : gv_d N N * gv_d (gv_x u v) q = gv_d N (gv_x u v) * gv_d N q - gv_d N v * gv_d (gv_x N u) q + gv_d N u * gv_d (gv_x N v) q := by
    simp only [gv_d, gv_x]; grobner
  rw [e, hu, hv, Int.zero_mul, Int.zero_mul, Int.sub_zero, Int.add_zero]
theorem hv_D (N a b r : gv_V) : gv_d N (gv_x (gv_s a b) (gv_s r b)) = - gv_d N (gv_x (gv_s b a) (gv_s r a)) := by
  simp only [gv_d, gv_x, gv_s]; grobner
def hv_T (o h a b : gv_V) : Int := gv_d (gv_s h o) (gv_x (gv_s a o) (gv_s b o))
theorem hv_T1 (o h a b : gv_V) : hv_T o h a b = gv_d (gv_x (gv_s a h) (gv_s b h)) (gv_s h o) := by
  simp only [hv_T, gv_d, gv_x, gv_s]; grobner
theorem hv_D1 (N h a b : gv_V) : gv_d N (gv_x (gv_s a h) (gv_s b h)) = gv_d N (gv_x (gv_s b a) (gv_s h a)) := by
  simp only [gv_d, gv_x, gv_s]; grobner
theorem hv_D2 (N h k a b : gv_V) : gv_d N (gv_x (gv_s b a) (gv_s h a)) - gv_d N (gv_x (gv_s b a) (gv_s k a)) = gv_d (gv_x (gv_s h k) N) b - gv_d (gv_x (gv_s h k) N) a := by
  simp only [gv_d, gv_x, gv_s]; grobner
def hv_abs (x : Int) : Int := if x < 0 then - x else x
theorem hv_abs_n {x : Int} (h : 0 ≤ x) : hv_abs x = x := if_neg (by omega)
theorem hv_abs_p {x : Int} (h : x ≤ 0) : hv_abs x = - x := by
  unfold hv_abs
  by_cases e : x < 0
  · rw [if_pos e]
  · rw [if_neg e]; omega
def he_e (F : Nat) (B : Nat → Nat → Bool) (a b : Nat) : Bool := decide (a ≠ b ∧ 3 ≤ he_w F B a a ∧ 3 ≤ he_w F B b b ∧ 2 ≤ he_w F B a b)
theorem he_e_sym {F : Nat} {B : Nat → Nat → Bool} {a b : Nat} (h : he_e F B a b = true) : he_e F B b a = true := by
  have h' := of_decide_eq_true h
  exact decide_eq_true ⟨Ne.symm h'.1, h'.2.2.1, h'.2.1, by rw [he_w_comm]; exact h'.2.2.2⟩
def hv_t (P : Nat → gv_V) (F : Nat) (B : Nat → Nat → Bool) (f h a b : Nat) : Int :=
  if a < b ∧ B f a = true ∧ B f b = true ∧ he_e F B a b = true then hv_abs (hv_T (P 0) (P h) (P a) (P b)) else 0
def hv_S (n : Nat) (P : Nat → gv_V) (F : Nat) (B : Nat → Nat → Bool) (f h : Nat) : Int := hs_i (fun a => hs_i (fun b => hv_t P F B f h a b) n) n
def hv_O (n : Nat) (P N : Nat → gv_V) (F : Nat) (B : Nat → Nat → Bool) (f a b : Nat) : Prop :=
  B f a = true ∧ B f b = true ∧ he_e F B a b = true ∧ ∀ r, r < n → B f r = true → 0 ≤ gv_d (N f) (gv_x (gv_s (P b) (P a)) (gv_s (P r) (P a)))
set_option maxHeartbeats 2000000 in
theorem hv_term {n F : Nat} {P N : Nat → gv_V} {L : Nat → Int} {B : Nat → Nat → Bool} (H : hf_FL n P F N L B) (dist : ∀ i j, i < n → j < n → i ≠ j → P i ≠ P j) {f : Nat} (hf : f < F) {h a b : Nat} (hh : h < n) (fh : B f h = true) (ha : a < n) (hb : b < n) (ab : a < b) :
    gv_d (N f) (N f) * hv_t P F B f h a b = (L f - gv_d (N f) (P 0)) * ((hv_ind (hv_O n P N F B f a b) - hv_ind (hv_O n P N F B f b a)) * gv_d (N f) (gv_x (gv_s (P b) (P a)) (gv_s (P h) (P a)))) := by
  obtain ⟨hle, hB, hnc, hst, hdis⟩ := id H
  by_cases c : B f a = true ∧ B f b = true ∧ he_e F B a b = true
  · obtain ⟨fa, fb, ee⟩ := c
    have ht : hv_t P F B f h a b = hv_abs (hv_T (P 0) (P h) (P a) (P b)) := if_pos ⟨ab, fa, fb, ee⟩
    have e' := of_decide_eq_true ee
    obtain ⟨⟨x, hx, fx, Dx⟩, hs⟩ := he_side H hf ha hb (dist a b ha hb (by omega)) fa fb e'.2.2.2
    have ea := (hB f hf a ha).mp fa
    have eb := (hB f hf b hb).mp fb
    have eh := (hB f hf h hh).mp fh
    have N0 : 0 < gv_d (N f) (N f) := by
      have h1 := gv_nn (N f)
      obtain ⟨d, hd, dl⟩ := hst f hf
      have h2 : gv_d (N f) (N f) ≠ 0 := by
        apply gv_ne (q := gv_s (P d) (P a))
        rw [gv_ds]; omega
      omega
    have l0 : 0 ≤ L f - gv_d (N f) (P 0) := by have := hle f hf 0 (by omega); omega
    have key : gv_d (N f) (N f) * hv_T (P 0) (P h) (P a) (P b) = gv_d (N f) (gv_x (gv_s (P b) (P a)) (gv_s (P h) (P a))) * (L f - gv_d (N f) (P 0)) := by
      rw [hv_T1, gv_par3 (N f) (gv_s (P a) (P h)) (gv_s (P b) (P h)) (gv_s (P h) (P 0)) (by rw [gv_ds]; omega) (by rw [gv_ds]; omega), hv_D1, gv_ds (N f) (P h) (P 0), eh]
    rw [ht]
    rcases hs with hs | hs
    · have o1 : hv_O n P N F B f a b := ⟨fa, fb, ee, hs⟩
      have o2 : ¬ hv_O n P N F B f b a := fun o => by
        have h1 := o.2.2.2 x hx fx
        have h2 := hs x hx fx
        rw [hv_D] at h1
        omega
      have d0 := hs h hh fh
      have t0 : 0 ≤ hv_T (P 0) (P h) (P a) (P b) := gv_m4 N0 (by rw [key]; exact Int.mul_nonneg d0 l0)
      rw [hv_ind_t o1, hv_ind_f o2, hv_abs_n t0, key, Int.sub_zero, Int.one_mul, Int.mul_comm]
    · have o1 : hv_O n P N F B f b a := ⟨fb, fa, he_e_sym ee, fun r hr fr => by
        have := hs r hr fr
        rw [hv_D]; omega⟩
      have o2 : ¬ hv_O n P N F B f a b := fun o => by
        have h1 := o.2.2.2 x hx fx
        have h2 := hs x hx fx
        omega
      have d0 := hs h hh fh
      have t0 : hv_T (P 0) (P h) (P a) (P b) ≤ 0 := gv_m3 N0 (by rw [key]; exact Int.mul_nonpos_of_nonpos_of_nonneg d0 l0)
      rw [hv_ind_t o1, hv_ind_f o2, hv_abs_p t0, Int.mul_neg, key]
      grobner
  · have ht : hv_t P F B f h a b = 0 := if_neg fun k => c k.2
    have o1 : ¬ hv_O n P N F B f a b := fun o => c ⟨o.1, o.2.1, o.2.2.1⟩
    have o2 : ¬ hv_O n P N F B f b a := fun o => c ⟨o.2.1, o.1, he_e_sym o.2.2.1⟩
    rw [ht, hv_ind_f o1, hv_ind_f o2]
    simp
set_option maxHeartbeats 2000000 in
theorem hv_out {n F : Nat} {P N : Nat → gv_V} {L : Nat → Int} {B : Nat → Nat → Bool} (H : hf_FL n P F N L B) (C : hf_CP n P F B) (dist : ∀ i j, i < n → j < n → i ≠ j → P i ≠ P j) {f v : Nat} (hf : f < F) (hv : v < n) :
    hs_i (fun b => hv_ind (hv_O n P N F B f v b)) n = hv_ind (B f v = true ∧ 3 ≤ he_w F B v v) ∧ hs_i (fun b => hv_ind (hv_O n P N F B f b v)) n = hv_ind (B f v = true ∧ 3 ≤ he_w F B v v) := by
  obtain ⟨hle, hB, hnc, hst, hdis⟩ := id H
  by_cases c : B f v = true ∧ 3 ≤ he_w F B v v
  · obtain ⟨fv, cv⟩ := c
    have ev := (hB f hf v hv).mp fv
    have N0 : gv_d (N f) (N f) ≠ 0 := by
      obtain ⟨d, hd, dl⟩ := hst f hf
      apply gv_ne (q := gv_s (P d) (P v))
      rw [gv_ds]; omega
    have z : ∀ r, r < n → B f r = true → gv_d (N f) (gv_s (P r) (P v)) = 0 := by
      intro r hr fr
      rw [gv_ds, ev, (hB f hf r hr).mp fr, Int.sub_self]
    rw [hv_ind_t ⟨fv, cv⟩]
    constructor
    · obtain ⟨b, hb, bv, fb, cb, wb, hD⟩ := he_ex H C dist hf hv fv cv (N f) z N0
      refine hs_i_one n hb (hv_ind_t ⟨fv, fb, decide_eq_true ⟨Ne.symm bv, cv, cb, wb⟩, hD⟩) fun i hi ib => hv_ind_f fun o => ib ?_
      have o' := of_decide_eq_true o.2.2.1
      exact he_un H dist hf hv fv cv (N f) z N0 hi hb (Ne.symm o'.1) bv o.2.1 fb o'.2.2.1 cb (o.2.2.2 b hb fb) (hD i hi o.2.1)
    · have zm : ∀ r, r < n → B f r = true → gv_d (gv_c (-1) (N f)) (gv_s (P r) (P v)) = 0 := by
        intro r hr fr
        rw [gv_dcl, z r hr fr] <;> rfl
      have m0 : gv_d (gv_c (-1) (N f)) (gv_c (-1) (N f)) ≠ 0 := by
        rw [gv_dcl, gv_dcr]; omega
      obtain ⟨b, hb, bv, fb, cb, wb, hD⟩ := he_ex H C dist hf hv fv cv (gv_c (-1) (N f)) zm m0
      have hb2 : 2 ≤ he_w F B b v := by rw [he_w_comm]; exact wb
      refine hs_i_one n hb (hv_ind_t ⟨fb, fv, decide_eq_true ⟨bv, cb, cv, hb2⟩, fun r hr fr => by
        have := hD r hr fr
        rw [gv_dcl] at this
        rw [hv_D]; omega⟩) fun i hi ib => hv_ind_f fun o => ib ?_
      have o' := of_decide_eq_true o.2.2.1
      have oD := o.2.2.2 b hb fb
      rw [hv_D] at oD
      exact he_un H dist hf hv fv cv (gv_c (-1) (N f)) zm m0 hi hb o'.1 bv o.1 fb o'.2.1 cb (by rw [gv_dcl]; omega) (hD i hi o.1)
  · rw [hv_ind_f c]
    constructor
    · exact hs_i_zero n fun i hi => hv_ind_f fun o => c ⟨o.1, (of_decide_eq_true o.2.2.1).2.1⟩
    · exact hs_i_zero n fun i hi => hv_ind_f fun o => c ⟨o.2.1, (of_decide_eq_true o.2.2.1).2.2.1⟩
set_option maxHeartbeats 2000000 in
theorem hv_vol {n F : Nat} {P N : Nat → gv_V} {L : Nat → Int} {B : Nat → Nat → Bool} (H : hf_FL n P F N L B) (C : hf_CP n P F B) (dist : ∀ i j, i < n → j < n → i ≠ j → P i ≠ P j) {f : Nat} (hf : f < F) {h k : Nat} (hh : h < n) (hk : k < n) (fh : B f h = true) (fk : B f k = true) :
    hv_S n P F B f h = hv_S n P F B f k := by
  have N0 : gv_d (N f) (N f) ≠ 0 := by
    obtain ⟨d, hd, dl⟩ := H.2.2.2.1 f hf
    apply gv_ne (q := gv_s (P d) (P h))
    have := (H.2.1 f hf h hh).mp fh
    rw [gv_ds]; omega
  have t1 : ∀ a, a < n → ∀ b, b < n → gv_d (N f) (N f) * (hv_t P F B f h a b - hv_t P F B f k a b) = (L f - gv_d (N f) (P 0)) * (if a < b then hv_ind (hv_O n P N F B f a b) * (gv_d (gv_x (gv_s (P h) (P k)) (N f)) (P b) - gv_d (gv_x (gv_s (P h) (P k)) (N f)) (P a)) + hv_ind (hv_O n P N F B f b a) * (gv_d (gv_x (gv_s (P h) (P k)) (N f)) (P a) - gv_d (gv_x (gv_s (P h) (P k)) (N f)) (P b)) else 0) := by
    intro a ha b hb
    by_cases ab : a < b
    · rw [if_pos ab, Int.mul_sub, hv_term H dist hf hh fh ha hb ab, hv_term H dist hf hk fk ha hb ab]
      have e := hv_D2 (N f) (P h) (P k) (P a) (P b)
      generalize gv_d (N f) (gv_x (gv_s (P b) (P a)) (gv_s (P h) (P a))) = x at *
      generalize gv_d (N f) (gv_x (gv_s (P b) (P a)) (gv_s (P k) (P a))) = y at *
      generalize gv_d (gv_x (gv_s (P h) (P k)) (N f)) (P b) = p at *
      generalize gv_d (gv_x (gv_s (P h) (P k)) (N f)) (P a) = q at *
      generalize hv_ind (hv_O n P N F B f a b) = i at *
      generalize hv_ind (hv_O n P N F B f b a) = j at *
      generalize L f - gv_d (N f) (P 0) = l at *
      have e2 : x = y + (p - q) := by omega
      subst e2
      grobner
    · have c1 : hv_t P F B f h a b = 0 := if_neg fun k => ab k.1
      have c2 : hv_t P F B f k a b = 0 := if_neg fun k => ab k.1
      rw [if_neg ab, c1, c2]
      simp
  have s1 : gv_d (N f) (N f) * (hv_S n P F B f h - hv_S n P F B f k) = (L f - gv_d (N f) (P 0)) * hs_i (fun a => hs_i (fun b => if a < b then hv_ind (hv_O n P N F B f a b) * (gv_d (gv_x (gv_s (P h) (P k)) (N f)) (P b) - gv_d (gv_x (gv_s (P h) (P k)) (N f)) (P a)) + hv_ind (hv_O n P N F B f b a) * (gv_d (gv_x (gv_s (P h) (P k)) (N f)) (P a) - gv_d (gv_x (gv_s (P h) (P k)) (N f)) (P b)) else 0) n) n := by
    unfold hv_S
    rw [← hs_i_sub, ← hs_i_mul, ← hs_i_mul]
    refine hs_i_congr n fun a ha => ?_
    (try dsimp only)
    rw [← hs_i_sub, ← hs_i_mul, ← hs_i_mul]
    exact hs_i_congr n fun b hb => t1 a ha b hb
  have s2 := hs_tri (fun a b => hv_ind (hv_O n P N F B f a b) * (gv_d (gv_x (gv_s (P h) (P k)) (N f)) (P b) - gv_d (gv_x (gv_s (P h) (P k)) (N f)) (P a))) (fun a => by (try dsimp only); rw [Int.sub_self, Int.mul_zero]) n
  (try dsimp only at s2)
  rw [s2] at s1
  have s3 : hs_i (fun a => hs_i (fun b => hv_ind (hv_O n P N F B f a b) * (gv_d (gv_x (gv_s (P h) (P k)) (N f)) (P b) - gv_d (gv_x (gv_s (P h) (P k)) (N f)) (P a))) n) n = 0 := by
    have u1 : hs_i (fun a => hs_i (fun b => hv_ind (hv_O n P N F B f a b) * (gv_d (gv_x (gv_s (P h) (P k)) (N f)) (P b) - gv_d (gv_x (gv_s (P h) (P k)) (N f)) (P a))) n) n
        = hs_i (fun a => hs_i (fun b => gv_d (gv_x (gv_s (P h) (P k)) (N f)) (P b) * hv_ind (hv_O n P N F B f a b)) n) n - hs_i (fun a => hs_i (fun b => gv_d (gv_x (gv_s (P h) (P k)) (N f)) (P a) * hv_ind (hv_O n P N F B f a b)) n) n := by
      rw [← hs_i_sub]
      refine hs_i_congr n fun a _ => ?_
      (try dsimp only)
      rw [← hs_i_sub]
      refine hs_i_congr n fun b _ => ?_
      (try dsimp only)
      grobner
    rw [u1, hs_i_swap (fun a b => gv_d (gv_x (gv_s (P h) (P k)) (N f)) (P b) * hv_ind (hv_O n P N F B f a b)) n n, ← hs_i_sub]
    refine hs_i_zero n fun v hv => ?_
    (try dsimp only)
    rw [hs_i_mul, hs_i_mul, (hv_out H C dist hf hv).1, (hv_out H C dist hf hv).2, Int.sub_self]
  rw [s3, Int.mul_zero] at s1
  rcases Int.mul_eq_zero.mp s1 with e | e
  · exact absurd e N0
  · omega
end
section
/-! the search for facet planes, as a pure fold over the triples -/
def hp_any (p : Nat → Bool) : Nat → Bool
  | 0 => false
  | k + 1 => hp_any p k || p k
theorem hp_any_t {p : Nat → Bool} : ∀ n, hp_any p n = true ↔ ∃ i, i < n ∧ p i = true := by
  intro n
  induction n with
  | zero => exact ⟨fun h => by simp [hp_any] at h, fun ⟨i, hi, _⟩ => absurd hi (Nat.not_lt_zero _)⟩
  | succ n ih =>
    simp only [hp_any, Bool.or_eq_true, ih]
    constructor
    · intro h
      rcases h with ⟨i, hi, hp⟩ | h
      · exact ⟨i, by omega, hp⟩
      · exact ⟨n, by omega, h⟩
    · intro ⟨i, hi, hp⟩
      by_cases e : i = n
      · right; rw [← e]; exact hp
      · left; exact ⟨i, by omega, hp⟩
def hp_mk (p : Nat → Bool) : Nat → Int32
  | 0 => 0
  | k + 1 => if p k = true then hp_mk p k ||| ((1 : Int32) <<< (nI k &&& 31)) else hp_mk p k
theorem hp_mk_bt {p : Nat → Bool} : ∀ k, k ≤ 32 → ∀ i, i < 32 → bt (hp_mk p k) i = (decide (i < k) && p i) := by
  intro k
  induction k with
  | zero =>
    intro _ i hi
    rw [hp_mk, b_0, decide_eq_false (by omega : ¬ i < 0)] <;> rfl
  | succ k ih =>
    intro hk i hi
    have h := ih (by omega) i hi
    by_cases e : p k = true
    · simp only [hp_mk]
      rw [if_pos e, b_or, h, bb_one (by omega) hi]
      by_cases e2 : i = k
      · subst e2
        rw [decide_eq_true (rfl : i = i), Bool.or_true, decide_eq_true (by omega : i < i + 1), e] <;> rfl
      · rw [decide_eq_false e2, Bool.or_false]
        by_cases e3 : i < k
        · rw [decide_eq_true e3, decide_eq_true (by omega : i < k + 1)]
        · rw [decide_eq_false e3, decide_eq_false (by omega : ¬ i < k + 1)]
    · simp only [hp_mk]
      rw [if_neg e, h]
      by_cases e2 : i = k
      · subst e2
        have : p i = false := by cases hpi : p i with
          | false => rfl
          | true => exact absurd hpi e
        rw [this, Bool.and_false, Bool.and_false]
      · by_cases e3 : i < k
        · rw [decide_eq_true e3, decide_eq_true (by omega : i < k + 1)]
        · rw [decide_eq_false e3, decide_eq_false (by omega : ¬ i < k + 1)]
def hp_nx (X Y Z : Nat → Int32) (a b c : Nat) : Int32 := (Y b - Y a) * (Z c - Z a) - (Z b - Z a) * (Y c - Y a)
def hp_ny (X Y Z : Nat → Int32) (a b c : Nat) : Int32 := (Z b - Z a) * (X c - X a) - (X b - X a) * (Z c - Z a)
def hp_nz (X Y Z : Nat → Int32) (a b c : Nat) : Int32 := (X b - X a) * (Y c - Y a) - (Y b - Y a) * (X c - X a)
def hp_lv (X Y Z : Nat → Int32) (a b c : Nat) : Int32 := hp_nx X Y Z a b c * X a + hp_ny X Y Z a b c * Y a + hp_nz X Y Z a b c * Z a
def hp_ht (X Y Z : Nat → Int32) (a b c p : Nat) : Int32 := hp_nx X Y Z a b c * X p + hp_ny X Y Z a b c * Y p + hp_nz X Y Z a b c * Z p - hp_lv X Y Z a b c
def hp_ab (X Y Z : Nat → Int32) (a b c n : Nat) : Bool := hp_any (fun p => decide (0 < hp_ht X Y Z a b c p)) n
def hp_be (X Y Z : Nat → Int32) (a b c n : Nat) : Bool := hp_any (fun p => decide (hp_ht X Y Z a b c p < 0)) n
def hp_ms (X Y Z : Nat → Int32) (a b c n : Nat) : Int32 := hp_mk (fun p => decide (hp_ht X Y Z a b c p = 0)) n
-- F, the normals, the levels, the members, solid
abbrev hp_T : Type := Nat × (Nat → Int32) × (Nat → Int32) × (Nat → Int32) × (Nat → Int32) × (Nat → Int32) × Bool
def hp_kn (M : Nat → Int32) (F : Nat) (k : Int32) : Bool := hp_any (fun f => decide (M f = k)) F
def hp_keep (S : hp_T) (nx ny nz lv mk : Int32) : hp_T :=
  if hp_kn S.2.2.2.2.2.1 S.1 mk = true then S else (S.1 + 1, upd S.2.1 S.1 nx, upd S.2.2.1 S.1 ny, upd S.2.2.2.1 S.1 nz, upd S.2.2.2.2.1 S.1 lv, upd S.2.2.2.2.2.1 S.1 mk, S.2.2.2.2.2.2)
def hp_sl (S : hp_T) (b : Bool) : hp_T := (S.1, S.2.1, S.2.2.1, S.2.2.2.1, S.2.2.2.2.1, S.2.2.2.2.2.1, S.2.2.2.2.2.2 || b)
def hp_try (X Y Z : Nat → Int32) (n a b c : Nat) (S : hp_T) : hp_T :=
  if hp_be X Y Z a b c n = true ∧ ¬ hp_ab X Y Z a b c n = true then
    hp_keep (hp_sl S true) (hp_nx X Y Z a b c) (hp_ny X Y Z a b c) (hp_nz X Y Z a b c) (hp_lv X Y Z a b c) (hp_ms X Y Z a b c n)
  else if hp_ab X Y Z a b c n = true ∧ ¬ hp_be X Y Z a b c n = true then
    hp_keep (hp_sl S true) (- hp_nx X Y Z a b c) (- hp_ny X Y Z a b c) (- hp_nz X Y Z a b c) (- hp_lv X Y Z a b c) (hp_ms X Y Z a b c n)
  else hp_sl S (hp_ab X Y Z a b c n || hp_be X Y Z a b c n)
def hp_fold (st : Nat → hp_T → hp_T) : Nat → Nat → hp_T → hp_T
  | 0, _, S => S
  | d + 1, j, S => hp_fold st d (j + 1) (st j S)
theorem hp_fold_inv {st : Nat → hp_T → hp_T} {I : hp_T → Prop} {lo hi : Nat} (h : ∀ j S, lo ≤ j → j < hi → I S → I (st j S)) : ∀ d j S, lo ≤ j → j + d ≤ hi → I S → I (hp_fold st d j S) := by
  intro d
  induction d with
  | zero => intro j S _ _ hS; exact hS
  | succ d ih => intro j S hl hj hS; exact ih (j + 1) _ (by omega) (by omega) (h j S hl (by omega) hS)
theorem hp_fold_est {st : Nat → hp_T → hp_T} {J : hp_T → Prop} {lo hi i : Nat} (hk : ∀ j S, lo ≤ j → j < hi → J S → J (st j S)) (he : ∀ S, J (st i S)) : ∀ d j S, lo ≤ j → j + d ≤ hi → j ≤ i → i < j + d → J (hp_fold st d j S) := by
  intro d
  induction d with
  | zero => intro j S _ _ h1 h2; exact absurd h2 (by omega)
  | succ d ih =>
    intro j S hl hj h1 h2
    by_cases e : i = j
    · subst e
      exact hp_fold_inv hk d (i + 1) _ (by omega) (by omega) (he S)
    · exact ih (j + 1) _ (by omega) (by omega) (by omega) (by omega)
def hp_c (X Y Z : Nat → Int32) (n a b : Nat) (S : hp_T) : hp_T := hp_fold (fun c S => hp_try X Y Z n a b c S) (n - (b + 1)) (b + 1) S
def hp_b (X Y Z : Nat → Int32) (n a : Nat) (S : hp_T) : hp_T := hp_fold (fun b S => hp_c X Y Z n a b S) (n - (a + 1)) (a + 1) S
def hp_a (X Y Z : Nat → Int32) (n : Nat) (S : hp_T) : hp_T := hp_fold (fun a S => hp_b X Y Z n a S) n 0 S
-- an invariant that every triple keeps
theorem hp_a_inv {X Y Z : Nat → Int32} {n : Nat} {I : hp_T → Prop} (h : ∀ a b c S, a < b → b < c → c < n → I S → I (hp_try X Y Z n a b c S)) (S : hp_T) (hS : I S) : I (hp_a X Y Z n S) := by
  refine hp_fold_inv (lo := 0) (hi := n) (fun a S _ ha hS => ?_) n 0 S (by omega) (by omega) hS
  refine hp_fold_inv (lo := a + 1) (hi := n) (fun b S hb hb2 hS => ?_) _ _ S (by omega) (by omega) hS
  exact hp_fold_inv (lo := b + 1) (hi := n) (fun c S hc hc2 hS => h a b c S (by omega) (by omega) hc2 hS) _ _ S (by omega) (by omega) hS
-- what one triple brings and every triple keeps
theorem hp_a_est {X Y Z : Nat → Int32} {n : Nat} {J : hp_T → Prop} (hk : ∀ a b c S, J S → J (hp_try X Y Z n a b c S)) {a b c : Nat} (hab : a < b) (hbc : b < c) (hc : c < n) (he : ∀ S, J (hp_try X Y Z n a b c S)) (S : hp_T) : J (hp_a X Y Z n S) := by
  have kc : ∀ a b S, b < n → J S → J (hp_c X Y Z n a b S) := fun a b S hb hS => hp_fold_inv (lo := b + 1) (hi := n) (fun c S _ _ hS => hk a b c S hS) _ _ S (by omega) (by omega) hS
  have kb : ∀ a S, a < n → J S → J (hp_b X Y Z n a S) := fun a S ha hS => hp_fold_inv (lo := a + 1) (hi := n) (fun b S _ hb hS => kc a b S hb hS) _ _ S (by omega) (by omega) hS
  refine hp_fold_est (lo := 0) (hi := n) (i := a) (fun j S _ hj hS => kb j S hj hS) (fun S => ?_) n 0 S (by omega) (by omega) (by omega) (by omega)
  refine hp_fold_est (lo := a + 1) (hi := n) (i := b) (fun j S _ hj hS => kc a j S hj hS) (fun S => ?_) _ _ S (by omega) (by omega) (by omega) (by omega)
  exact hp_fold_est (lo := b + 1) (hi := n) (i := c) (fun j S _ _ hS => hk a b j S hS) (fun S => he S) _ _ S (by omega) (by omega) (by omega) (by omega)
end
section
/-! the fold's list is the list of all facet planes -/
theorem hi_mb {a b A C : Int} (h1 : -A ≤ a) (h2 : a ≤ A) (h3 : -C ≤ b) (h4 : b ≤ C) : -(A * C) ≤ a * b ∧ a * b ≤ A * C := by
  have p1 := Int.mul_nonneg (show 0 ≤ A - a by omega) (show 0 ≤ C + b by omega)
  have p2 := Int.mul_nonneg (show 0 ≤ A + a by omega) (show 0 ≤ C - b by omega)
  have p3 := Int.mul_nonneg (show 0 ≤ A + a by omega) (show 0 ≤ C + b by omega)
  have p4 := Int.mul_nonneg (show 0 ≤ A - a by omega) (show 0 ≤ C - b by omega)
  simp only [Int.mul_add, Int.add_mul, Int.mul_sub, Int.sub_mul] at p1 p2 p3 p4
  omega
def hi_P (X Y Z : Nat → Int32) (i : Nat) : gv_V := ((X i).toInt, (Y i).toInt, (Z i).toInt)
def hi_in (k : Int) (p : gv_V) : Prop := -k ≤ p.1 ∧ p.1 ≤ k ∧ -k ≤ p.2.1 ∧ p.2.1 ≤ k ∧ -k ≤ p.2.2 ∧ p.2.2 ≤ k
def hi_rg (X Y Z : Nat → Int32) (n : Nat) : Prop := ∀ i, i < n → hi_in 60 (hi_P X Y Z i)
theorem hi_in_s {a b : gv_V} (ha : hi_in 60 a) (hb : hi_in 60 b) : hi_in 120 (gv_s a b) := by
  unfold hi_in gv_s at *
  (try dsimp only)
  omega
theorem hi_in_x {a b : gv_V} (ha : hi_in 120 a) (hb : hi_in 120 b) : hi_in 28800 (gv_x a b) := by
  unfold hi_in at ha hb
  have m1 := hi_mb ha.2.2.1 ha.2.2.2.1 hb.2.2.2.2.1 hb.2.2.2.2.2
  have m2 := hi_mb ha.2.2.2.2.1 ha.2.2.2.2.2 hb.2.2.1 hb.2.2.2.1
  have m3 := hi_mb ha.2.2.2.2.1 ha.2.2.2.2.2 hb.1 hb.2.1
  have m4 := hi_mb ha.1 ha.2.1 hb.2.2.2.2.1 hb.2.2.2.2.2
  have m5 := hi_mb ha.1 ha.2.1 hb.2.2.1 hb.2.2.2.1
  have m6 := hi_mb ha.2.2.1 ha.2.2.2.1 hb.1 hb.2.1
  unfold hi_in gv_x
  (try dsimp only)
  omega
theorem hi_in_d {a b : gv_V} (ha : hi_in 28800 a) (hb : hi_in 120 b) : -10368000 ≤ gv_d a b ∧ gv_d a b ≤ 10368000 := by
  unfold hi_in at ha hb
  have m1 := hi_mb ha.1 ha.2.1 hb.1 hb.2.1
  have m2 := hi_mb ha.2.2.1 ha.2.2.2.1 hb.2.2.1 hb.2.2.2.1
  have m3 := hi_mb ha.2.2.2.2.1 ha.2.2.2.2.2 hb.2.2.2.2.1 hb.2.2.2.2.2
  unfold gv_d
  omega
theorem hi_60 {a : gv_V} (h : hi_in 60 a) : hi_in 120 a := by unfold hi_in at *; omega
def hi_T (P : Nat → gv_V) (a b c : Nat) : gv_V := gv_x (gv_s (P b) (P a)) (gv_s (P c) (P a))
def hi_h (P : Nat → gv_V) (a b c i : Nat) : Int := gv_d (hi_T P a b c) (gv_s (P i) (P a))
theorem hi_nx (X Y Z : Nat → Int32) (a b c : Nat) : hp_nx X Y Z a b c = Int32.ofInt (hi_T (hi_P X Y Z) a b c).1 := by
  simp only [hp_nx, hi_T, hi_P, gv_x, gv_s, Int32.ofInt_sub, Int32.ofInt_mul, Int32.ofInt_toInt]
theorem hi_ny (X Y Z : Nat → Int32) (a b c : Nat) : hp_ny X Y Z a b c = Int32.ofInt (hi_T (hi_P X Y Z) a b c).2.1 := by
  simp only [hp_ny, hi_T, hi_P, gv_x, gv_s, Int32.ofInt_sub, Int32.ofInt_mul, Int32.ofInt_toInt]
theorem hi_nz (X Y Z : Nat → Int32) (a b c : Nat) : hp_nz X Y Z a b c = Int32.ofInt (hi_T (hi_P X Y Z) a b c).2.2 := by
  simp only [hp_nz, hi_T, hi_P, gv_x, gv_s, Int32.ofInt_sub, Int32.ofInt_mul, Int32.ofInt_toInt]
theorem hi_lv (X Y Z : Nat → Int32) (a b c : Nat) : hp_lv X Y Z a b c = Int32.ofInt (gv_d (hi_T (hi_P X Y Z) a b c) (hi_P X Y Z a)) := by
  unfold hp_lv
  rw [hi_nx, hi_ny, hi_nz]
  generalize hi_T (hi_P X Y Z) a b c = t
  simp only [gv_d, hi_P, Int32.ofInt_add, Int32.ofInt_mul, Int32.ofInt_toInt]
theorem hi_ht (X Y Z : Nat → Int32) (a b c p : Nat) : hp_ht X Y Z a b c p = Int32.ofInt (hi_h (hi_P X Y Z) a b c p) := by
  unfold hp_ht hi_h
  rw [gv_ds, hi_lv, hi_nx, hi_ny, hi_nz]
  generalize hi_T (hi_P X Y Z) a b c = t
  simp only [gv_d, hi_P, Int32.ofInt_sub, Int32.ofInt_add, Int32.ofInt_mul, Int32.ofInt_toInt]
theorem hi_toI {h : Int} (h1 : -1000000000 ≤ h) (h2 : h ≤ 1000000000) : (Int32.ofInt h).toInt = h := Int32.toInt_ofInt_of_le (by omega) (by omega)
theorem hi_0 : (0 : Int32).toInt = 0 := by decide
theorem hi_pos {h : Int} (h1 : -1000000000 ≤ h) (h2 : h ≤ 1000000000) : 0 < Int32.ofInt h ↔ 0 < h := by
  rw [Int32.lt_iff_toInt_lt, hi_toI h1 h2, hi_0]
theorem hi_neg {h : Int} (h1 : -1000000000 ≤ h) (h2 : h ≤ 1000000000) : Int32.ofInt h < 0 ↔ h < 0 := by
  rw [Int32.lt_iff_toInt_lt, hi_toI h1 h2, hi_0]
theorem hi_eq0 {h : Int} (h1 : -1000000000 ≤ h) (h2 : h ≤ 1000000000) : Int32.ofInt h = 0 ↔ h = 0 := by
  rw [← Int32.toInt_inj, hi_toI h1 h2, hi_0]
theorem hi_inT {X Y Z : Nat → Int32} {n a b c : Nat} (R : hi_rg X Y Z n) (ha : a < n) (hb : b < n) (hc : c < n) : hi_in 28800 (hi_T (hi_P X Y Z) a b c) :=
  hi_in_x (hi_in_s (R b hb) (R a ha)) (hi_in_s (R c hc) (R a ha))
theorem hi_inh {X Y Z : Nat → Int32} {n a b c i : Nat} (R : hi_rg X Y Z n) (ha : a < n) (hb : b < n) (hc : c < n) (hi : i < n) : -10368000 ≤ hi_h (hi_P X Y Z) a b c i ∧ hi_h (hi_P X Y Z) a b c i ≤ 10368000 :=
  hi_in_d (hi_inT R ha hb hc) (hi_in_s (R i hi) (R a ha))
theorem hi_ab {X Y Z : Nat → Int32} {n a b c : Nat} (R : hi_rg X Y Z n) (ha : a < n) (hb : b < n) (hc : c < n) : hp_ab X Y Z a b c n = true ↔ ∃ i, i < n ∧ 0 < hi_h (hi_P X Y Z) a b c i := by
  unfold hp_ab
  rw [hp_any_t]
  constructor
  · intro ⟨i, hi, h⟩
    have h' := of_decide_eq_true h
    have k := hi_inh R ha hb hc hi
    rw [hi_ht, hi_pos (by omega) (by omega)] at h'
    exact ⟨i, hi, h'⟩
  · intro ⟨i, hi, h⟩
    have k := hi_inh R ha hb hc hi
    exact ⟨i, hi, decide_eq_true (by rw [hi_ht, hi_pos (by omega) (by omega)]; exact h)⟩
theorem hi_be {X Y Z : Nat → Int32} {n a b c : Nat} (R : hi_rg X Y Z n) (ha : a < n) (hb : b < n) (hc : c < n) : hp_be X Y Z a b c n = true ↔ ∃ i, i < n ∧ hi_h (hi_P X Y Z) a b c i < 0 := by
  unfold hp_be
  rw [hp_any_t]
  constructor
  · intro ⟨i, hi, h⟩
    have h' := of_decide_eq_true h
    have k := hi_inh R ha hb hc hi
    rw [hi_ht, hi_neg (by omega) (by omega)] at h'
    exact ⟨i, hi, h'⟩
  · intro ⟨i, hi, h⟩
    have k := hi_inh R ha hb hc hi
    exact ⟨i, hi, decide_eq_true (by rw [hi_ht, hi_neg (by omega) (by omega)]; exact h)⟩
theorem hi_ms {X Y Z : Nat → Int32} {n a b c : Nat} (hn : n ≤ 14) (R : hi_rg X Y Z n) (ha : a < n) (hb : b < n) (hc : c < n) {i : Nat} (hi : i < 32) : bt (hp_ms X Y Z a b c n) i = true ↔ i < n ∧ hi_h (hi_P X Y Z) a b c i = 0 := by
  unfold hp_ms
  rw [hp_mk_bt n (by omega) i hi, Bool.and_eq_true]
  constructor
  · intro ⟨h1, h2⟩
    have h1' := of_decide_eq_true h1
    have h2' := of_decide_eq_true h2
    have k := hi_inh R ha hb hc h1'
    rw [hi_ht, hi_eq0 (by omega) (by omega)] at h2'
    exact ⟨h1', h2'⟩
  · intro ⟨h1, h2⟩
    have k := hi_inh R ha hb hc h1
    exact ⟨decide_eq_true h1, decide_eq_true (by rw [hi_ht, hi_eq0 (by omega) (by omega)]; exact h2)⟩
def hi_B (M : Nat → Int32) (f i : Nat) : Bool := bt (M f) i
def hi_N (S : hp_T) (f : Nat) : gv_V := ((S.2.1 f).toInt, (S.2.2.1 f).toInt, (S.2.2.2.1 f).toInt)
def hi_L (S : hp_T) (f : Nat) : Int := (S.2.2.2.2.1 f).toInt
def hi_I (P : Nat → gv_V) (n : Nat) (S : hp_T) : Prop :=
  hf_FL n P S.1 (hi_N S) (hi_L S) (hi_B S.2.2.2.2.2.1) ∧ (∀ f, f < S.1 → ∀ i, n ≤ i → i < 32 → bt (S.2.2.2.2.2.1 f) i = false) ∧ (0 < S.1 → S.2.2.2.2.2.2 = true) ∧ (S.2.2.2.2.2.2 = true → hf_so n P)
set_option maxHeartbeats 2000000 in
theorem hi_keep {P : Nat → gv_V} {n : Nat} (hn : n ≤ 14) {S : hp_T} (h : hi_I P n S) (hs : S.2.2.2.2.2.2 = true) {nx ny nz lv mk : Int32} {m : gv_V} {l : Int} (em : (nx.toInt, ny.toInt, nz.toInt) = m) (el : lv.toInt = l)
    (c1 : ∀ i, i < n → gv_d m (P i) ≤ l) (c2 : ∀ i, i < 32 → (bt mk i = true ↔ i < n ∧ gv_d m (P i) = l))
    (c3 : ∃ a b c, a < n ∧ b < n ∧ c < n ∧ gv_d m (P a) = l ∧ gv_d m (P b) = l ∧ gv_d m (P c) = l ∧ hf_nc (P a) (P b) (P c)) (c4 : ∃ d, d < n ∧ gv_d m (P d) < l) : hi_I P n (hp_keep S nx ny nz lv mk) := by
  unfold hp_keep
  by_cases kn : hp_kn S.2.2.2.2.2.1 S.1 mk = true
  · rw [if_pos kn]; exact h
  rw [if_neg kn]
  obtain ⟨⟨hle, hB, hnc, hst, hdis⟩, hhi, h3, h4⟩ := h
  have kn' : ∀ f, f < S.1 → S.2.2.2.2.2.1 f ≠ mk := by
    intro f hf e
    apply kn
    unfold hp_kn
    rw [hp_any_t]
    exact ⟨f, hf, decide_eq_true e⟩
  have mkh : ∀ i, n ≤ i → i < 32 → bt mk i = false := by
    intro i h1 h2
    cases hb : bt mk i with
    | false => rfl
    | true => exact absurd ((c2 i h2).mp hb).1 (by omega)
  have nF : hi_N (S.1 + 1, upd S.2.1 S.1 nx, upd S.2.2.1 S.1 ny, upd S.2.2.2.1 S.1 nz, upd S.2.2.2.2.1 S.1 lv, upd S.2.2.2.2.2.1 S.1 mk, S.2.2.2.2.2.2) S.1 = m := by
    simp only [hi_N, pk_us]; exact em
  have nO : ∀ f, f ≠ S.1 → hi_N (S.1 + 1, upd S.2.1 S.1 nx, upd S.2.2.1 S.1 ny, upd S.2.2.2.1 S.1 nz, upd S.2.2.2.2.1 S.1 lv, upd S.2.2.2.2.2.1 S.1 mk, S.2.2.2.2.2.2) f = hi_N S f := by
    intro f hf
    simp only [hi_N, pk_un hf]
  have lF : hi_L (S.1 + 1, upd S.2.1 S.1 nx, upd S.2.2.1 S.1 ny, upd S.2.2.2.1 S.1 nz, upd S.2.2.2.2.1 S.1 lv, upd S.2.2.2.2.2.1 S.1 mk, S.2.2.2.2.2.2) S.1 = l := by
    simp only [hi_L, pk_us]; exact el
  have lO : ∀ f, f ≠ S.1 → hi_L (S.1 + 1, upd S.2.1 S.1 nx, upd S.2.2.1 S.1 ny, upd S.2.2.2.1 S.1 nz, upd S.2.2.2.2.1 S.1 lv, upd S.2.2.2.2.2.1 S.1 mk, S.2.2.2.2.2.2) f = hi_L S f := by
    intro f hf
    simp only [hi_L, pk_un hf]
  have bF : ∀ i, hi_B (upd S.2.2.2.2.2.1 S.1 mk) S.1 i = bt mk i := fun i => by simp only [hi_B, pk_us]
  have bO : ∀ f, f ≠ S.1 → ∀ i, hi_B (upd S.2.2.2.2.2.1 S.1 mk) f i = hi_B S.2.2.2.2.2.1 f i := fun f hf i => by simp only [hi_B, pk_un hf]
  unfold hi_I
  (try dsimp only)
  refine ⟨⟨?_, ?_, ?_, ?_, ?_⟩, ?_, fun _ => hs, h4⟩
  · intro f hf i hi
    by_cases e : f = S.1
    · rw [e, nF, lF]; exact c1 i hi
    · rw [nO f e, lO f e]; exact hle f (by omega) i hi
  · intro f hf i hi
    by_cases e : f = S.1
    · rw [e, nF, lF, bF, c2 i (by omega)]
      exact ⟨fun k => k.2, fun k => ⟨hi, k⟩⟩
    · rw [nO f e, lO f e, bO f e]; exact hB f (by omega) i hi
  · intro f hf
    by_cases e : f = S.1
    · obtain ⟨a, b, c, ha, hb, hc, ea, eb, ec, nc⟩ := c3
      refine ⟨a, b, c, ha, hb, hc, ?_, ?_, ?_, nc⟩
      · rw [e, bF]; exact (c2 a (by omega)).mpr ⟨ha, ea⟩
      · rw [e, bF]; exact (c2 b (by omega)).mpr ⟨hb, eb⟩
      · rw [e, bF]; exact (c2 c (by omega)).mpr ⟨hc, ec⟩
    · obtain ⟨a, b, c, ha, hb, hc, fa, fb, fc, nc⟩ := hnc f (by omega)
      refine ⟨a, b, c, ha, hb, hc, ?_, ?_, ?_, nc⟩
      · rw [bO f e]; exact fa
      · rw [bO f e]; exact fb
      · rw [bO f e]; exact fc
  · intro f hf
    by_cases e : f = S.1
    · rw [e, nF, lF]; exact c4
    · rw [nO f e, lO f e]; exact hst f (by omega)
  · intro f g hf hg hfg
    have ext : ∀ f, f < S.1 → (∀ i, i < n → hi_B S.2.2.2.2.2.1 f i = bt mk i) → False := by
      intro f hf h
      refine kn' f hf (b_ext fun i hi => ?_)
      by_cases e : i < n
      · exact h i e
      · rw [hhi f hf i (by omega) hi, mkh i (by omega) hi]
    by_cases e : f = S.1
    · by_cases e2 : g = S.1
      · rw [e, e2]
      · refine absurd (ext g (by omega) fun i hi => ?_) id
        rw [e] at hfg
        rw [← bF i, ← bO g e2]; exact (hfg i hi).symm
    · by_cases e2 : g = S.1
      · refine absurd (ext f (by omega) fun i hi => ?_) id
        rw [e2] at hfg
        rw [← bF i, ← bO f e]; exact hfg i hi
      · exact hdis f g (by omega) (by omega) fun i hi => by rw [← bO f e, ← bO g e2]; exact hfg i hi
  · intro f hf i h1 h2
    by_cases e : f = S.1
    · rw [e, pk_us]; exact mkh i h1 h2
    · rw [pk_un e]; exact hhi f (by omega) i h1 h2
set_option maxHeartbeats 2000000 in
theorem hi_try {X Y Z : Nat → Int32} {n : Nat} (hn : n ≤ 14) (R : hi_rg X Y Z n) (a b c : Nat) (S : hp_T) (hab : a < b) (hbc : b < c) (hcn : c < n) (h : hi_I (hi_P X Y Z) n S) : hi_I (hi_P X Y Z) n (hp_try X Y Z n a b c S) := by
  have ha : a < n := by omega
  have hb : b < n := by omega
  have iT := hi_inT R ha hb hcn
  have iTd := hi_in_d iT (hi_60 (R a ha))
  have ab := hi_ab (n := n) R ha hb hcn
  have be := hi_be (n := n) R ha hb hcn
  have ms := fun i (hi : i < 32) => hi_ms hn R ha hb hcn (i := i) hi
  have hh : ∀ i, hi_h (hi_P X Y Z) a b c i = gv_d (hi_T (hi_P X Y Z) a b c) (hi_P X Y Z i) - gv_d (hi_T (hi_P X Y Z) a b c) (hi_P X Y Z a) := fun i => gv_ds _ _ _
  have tb : gv_d (hi_T (hi_P X Y Z) a b c) (hi_P X Y Z b) = gv_d (hi_T (hi_P X Y Z) a b c) (hi_P X Y Z a) := by
    have := gv_xl (gv_s (hi_P X Y Z b) (hi_P X Y Z a)) (gv_s (hi_P X Y Z c) (hi_P X Y Z a))
    rw [gv_ds] at this
    unfold hi_T
    omega
  have tc : gv_d (hi_T (hi_P X Y Z) a b c) (hi_P X Y Z c) = gv_d (hi_T (hi_P X Y Z) a b c) (hi_P X Y Z a) := by
    have := gv_xr (gv_s (hi_P X Y Z b) (hi_P X Y Z a)) (gv_s (hi_P X Y Z c) (hi_P X Y Z a))
    rw [gv_ds] at this
    unfold hi_T
    omega
  have so : ∀ i, i < n → hi_h (hi_P X Y Z) a b c i ≠ 0 → hf_so n (hi_P X Y Z) := fun i hi h0 => ⟨a, b, c, i, ha, hb, hcn, hi, h0⟩
  have nc : ∀ i, hi_h (hi_P X Y Z) a b c i ≠ 0 → hf_nc (hi_P X Y Z a) (hi_P X Y Z b) (hi_P X Y Z c) := fun i h0 => gv_ne h0
  have slI : hf_so n (hi_P X Y Z) → ∀ x, hi_I (hi_P X Y Z) n (hp_sl S x) := by
    intro hso x
    obtain ⟨h1, h2, h3, h4⟩ := h
    refine ⟨h1, h2, fun h0 => ?_, fun _ => hso⟩
    have := h3 h0
    simp only [hp_sl, this, Bool.true_or]
  have tx : (hp_nx X Y Z a b c).toInt = (hi_T (hi_P X Y Z) a b c).1 := by rw [hi_nx]; exact hi_toI (by have := iT.1; omega) (by have := iT.2.1; omega)
  have ty : (hp_ny X Y Z a b c).toInt = (hi_T (hi_P X Y Z) a b c).2.1 := by rw [hi_ny]; exact hi_toI (by have := iT.2.2.1; omega) (by have := iT.2.2.2.1; omega)
  have tz : (hp_nz X Y Z a b c).toInt = (hi_T (hi_P X Y Z) a b c).2.2 := by rw [hi_nz]; exact hi_toI (by have := iT.2.2.2.2.1; omega) (by have := iT.2.2.2.2.2; omega)
  have tl : (hp_lv X Y Z a b c).toInt = gv_d (hi_T (hi_P X Y Z) a b c) (hi_P X Y Z a) := by rw [hi_lv]; exact hi_toI (by omega) (by omega)
  have tx' : (- hp_nx X Y Z a b c).toInt = - (hi_T (hi_P X Y Z) a b c).1 := by rw [hi_nx, Int32.neg_ofInt]; exact hi_toI (by have := iT.2.1; omega) (by have := iT.1; omega)
  have ty' : (- hp_ny X Y Z a b c).toInt = - (hi_T (hi_P X Y Z) a b c).2.1 := by rw [hi_ny, Int32.neg_ofInt]; exact hi_toI (by have := iT.2.2.2.1; omega) (by have := iT.2.2.1; omega)
  have tz' : (- hp_nz X Y Z a b c).toInt = - (hi_T (hi_P X Y Z) a b c).2.2 := by rw [hi_nz, Int32.neg_ofInt]; exact hi_toI (by have := iT.2.2.2.2.2; omega) (by have := iT.2.2.2.2.1; omega)
  have tl' : (- hp_lv X Y Z a b c).toInt = - gv_d (hi_T (hi_P X Y Z) a b c) (hi_P X Y Z a) := by rw [hi_lv, Int32.neg_ofInt]; exact hi_toI (by omega) (by omega)
  unfold hp_try
  by_cases k1 : hp_be X Y Z a b c n = true ∧ ¬ hp_ab X Y Z a b c n = true
  · rw [if_pos k1]
    obtain ⟨i, hi, hlt⟩ := be.mp k1.1
    have nab : ∀ i, i < n → hi_h (hi_P X Y Z) a b c i ≤ 0 := fun i hi => Classical.byContradiction fun hn => k1.2 (ab.mpr ⟨i, hi, by omega⟩)
    refine hi_keep hn (slI (so i hi (by omega)) true) (by simp only [hp_sl, Bool.or_true]) (m := hi_T (hi_P X Y Z) a b c) (l := gv_d (hi_T (hi_P X Y Z) a b c) (hi_P X Y Z a)) ?_ tl ?_ ?_ ?_ ?_
    · rw [tx, ty, tz]
    · intro i hi
      have := nab i hi
      have := hh i
      omega
    · intro i hi
      rw [ms i hi, hh i]
      constructor
      · intro ⟨h1, h2⟩; exact ⟨h1, by omega⟩
      · intro ⟨h1, h2⟩; exact ⟨h1, by omega⟩
    · exact ⟨a, b, c, ha, hb, hcn, rfl, tb, tc, nc i (by omega)⟩
    · exact ⟨i, hi, by have := hh i; omega⟩
  · rw [if_neg k1]
    by_cases k2 : hp_ab X Y Z a b c n = true ∧ ¬ hp_be X Y Z a b c n = true
    · rw [if_pos k2]
      obtain ⟨i, hi, hlt⟩ := ab.mp k2.1
      have nbe : ∀ i, i < n → 0 ≤ hi_h (hi_P X Y Z) a b c i := fun i hi => Classical.byContradiction fun hn => k2.2 (be.mpr ⟨i, hi, by omega⟩)
      refine hi_keep hn (slI (so i hi (by omega)) true) (by simp only [hp_sl, Bool.or_true]) (m := gv_c (-1) (hi_T (hi_P X Y Z) a b c)) (l := - gv_d (hi_T (hi_P X Y Z) a b c) (hi_P X Y Z a)) ?_ tl' ?_ ?_ ?_ ?_
      · rw [tx', ty', tz']
        simp only [gv_c]
        exact Prod.ext (by (try dsimp only); omega) (Prod.ext (by (try dsimp only); omega) (by (try dsimp only); omega))
      · intro i hi
        have := nbe i hi
        have := hh i
        rw [gv_dcl]
        omega
      · intro i hi
        rw [ms i hi, hh i, gv_dcl]
        constructor
        · intro ⟨h1, h2⟩; exact ⟨h1, by omega⟩
        · intro ⟨h1, h2⟩; exact ⟨h1, by omega⟩
      · refine ⟨a, b, c, ha, hb, hcn, ?_, ?_, ?_, nc i (by omega)⟩
        · rw [gv_dcl]; omega
        · rw [gv_dcl]; omega
        · rw [gv_dcl]; omega
      · refine ⟨i, hi, ?_⟩
        have := hh i
        rw [gv_dcl]; omega
    · rw [if_neg k2]
      by_cases k3 : (hp_ab X Y Z a b c n || hp_be X Y Z a b c n) = true
      · refine slI ?_ _
        rw [Bool.or_eq_true] at k3
        rcases k3 with k3 | k3
        · obtain ⟨i, hi, hlt⟩ := ab.mp k3
          exact so i hi (by omega)
        · obtain ⟨i, hi, hlt⟩ := be.mp k3
          exact so i hi (by omega)
      · have k3' : (hp_ab X Y Z a b c n || hp_be X Y Z a b c n) = false := by
          cases hx : (hp_ab X Y Z a b c n || hp_be X Y Z a b c n) with
          | false => rfl
          | true => exact absurd hx k3
        rw [k3']
        have e : hp_sl S false = S := by simp only [hp_sl, Bool.or_false]
        rw [e]; exact h
end
section
/-! all facet planes are found; no more than 24; some if the set is solid -/
def hl_has (k : Int32) (S : hp_T) : Prop := ∃ f, f < S.1 ∧ S.2.2.2.2.2.1 f = k
theorem hl_keep {k : Int32} {S : hp_T} (h : hl_has k S) (nx ny nz lv mk : Int32) : hl_has k (hp_keep S nx ny nz lv mk) := by
  unfold hp_keep
  by_cases kn : hp_kn S.2.2.2.2.2.1 S.1 mk = true
  · rw [if_pos kn]; exact h
  · rw [if_neg kn]
    obtain ⟨f, hf, e⟩ := h
    refine ⟨f, ?_, ?_⟩
    · (try dsimp only); omega
    · (try dsimp only); rw [pk_un (by omega)]; exact e
theorem hl_put (S : hp_T) (nx ny nz lv mk : Int32) : hl_has mk (hp_keep S nx ny nz lv mk) := by
  unfold hp_keep
  by_cases kn : hp_kn S.2.2.2.2.2.1 S.1 mk = true
  · rw [if_pos kn]
    unfold hp_kn at kn
    rw [hp_any_t] at kn
    obtain ⟨f, hf, e⟩ := kn
    exact ⟨f, hf, of_decide_eq_true e⟩
  · rw [if_neg kn]
    exact ⟨S.1, Nat.lt_succ_self _, pk_us⟩
theorem hl_try {k : Int32} {X Y Z : Nat → Int32} {n : Nat} (a b c : Nat) (S : hp_T) (h : hl_has k S) : hl_has k (hp_try X Y Z n a b c S) := by
  have h1 : ∀ x, hl_has k (hp_sl S x) := fun _ => h
  unfold hp_try
  by_cases k1 : hp_be X Y Z a b c n = true ∧ ¬ hp_ab X Y Z a b c n = true
  · rw [if_pos k1]; exact hl_keep (h1 _) _ _ _ _ _
  · rw [if_neg k1]
    by_cases k2 : hp_ab X Y Z a b c n = true ∧ ¬ hp_be X Y Z a b c n = true
    · rw [if_pos k2]; exact hl_keep (h1 _) _ _ _ _ _
    · rw [if_neg k2]; exact h1 _
set_option maxHeartbeats 2000000 in
theorem hl_cp {X Y Z : Nat → Int32} {n : Nat} (hn : n ≤ 14) (R : hi_rg X Y Z n) (S : hp_T) : hf_CP n (hi_P X Y Z) (hp_a X Y Z n S).1 (hi_B (hp_a X Y Z n S).2.2.2.2.2.1) := by
  intro w l hle ⟨d, hd, dl⟩
  have main : ∀ a b c, a < b → b < c → c < n → gv_d w (hi_P X Y Z a) = l → gv_d w (hi_P X Y Z b) = l → gv_d w (hi_P X Y Z c) = l → hf_nc (hi_P X Y Z a) (hi_P X Y Z b) (hi_P X Y Z c) →
      ∃ f, f < (hp_a X Y Z n S).1 ∧ ∀ i, i < n → (hi_B (hp_a X Y Z n S).2.2.2.2.2.1 f i = true ↔ gv_d w (hi_P X Y Z i) = l) := by
    intro a b c hab hbc hc ea eb ec nc
    have ha : a < n := by omega
    have hb : b < n := by omega
    have e : ∀ i, gv_d (hi_T (hi_P X Y Z) a b c) (hi_T (hi_P X Y Z) a b c) * (gv_d w (hi_P X Y Z i) - l) = gv_d (hi_T (hi_P X Y Z) a b c) w * hi_h (hi_P X Y Z) a b c i := by
      intro i
      have := gv_par2 w (gv_s (hi_P X Y Z b) (hi_P X Y Z a)) (gv_s (hi_P X Y Z c) (hi_P X Y Z a)) (gv_s (hi_P X Y Z i) (hi_P X Y Z a)) (by rw [gv_ds]; omega) (by rw [gv_ds]; omega)
      rw [gv_ds w (hi_P X Y Z i), ea] at this
      exact this
    have T0 : 0 < gv_d (hi_T (hi_P X Y Z) a b c) (hi_T (hi_P X Y Z) a b c) := by
      have h1 := gv_nn (hi_T (hi_P X Y Z) a b c)
      have h2 : gv_d (hi_T (hi_P X Y Z) a b c) (hi_T (hi_P X Y Z) a b c) ≠ 0 := nc
      omega
    have ab := hi_ab (n := n) R ha hb hc
    have be := hi_be (n := n) R ha hb hc
    have ms := fun i (hi : i < 32) => hi_ms hn R ha hb hc (i := i) hi
    generalize hT : gv_d (hi_T (hi_P X Y Z) a b c) (hi_T (hi_P X Y Z) a b c) = tt at *
    generalize hw : gv_d (hi_T (hi_P X Y Z) a b c) w = tw at *
    have ed := e d
    have dneg := Int.mul_neg_of_pos_of_neg T0 (show gv_d w (hi_P X Y Z d) - l < 0 by omega)
    have tw0 : tw ≠ 0 := by
      intro h
      rw [h, Int.zero_mul] at ed
      omega
    have z0 : ∀ i, hi_h (hi_P X Y Z) a b c i = 0 ↔ gv_d w (hi_P X Y Z i) = l := by
      intro i
      have ei := e i
      constructor
      · intro h
        rw [h, Int.mul_zero] at ei
        rcases Int.mul_eq_zero.mp ei with h | h <;> omega
      · intro h
        rw [h, Int.sub_self, Int.mul_zero] at ei
        rcases Int.mul_eq_zero.mp ei.symm with h | h
        · exact absurd h tw0
        · exact h
    have has : ∀ S, hl_has (hp_ms X Y Z a b c n) (hp_try X Y Z n a b c S) := by
      intro S
      unfold hp_try
      rcases Int.lt_or_gt_of_ne tw0 with hs | hs
      · have pos : ∀ i, i < n → 0 ≤ hi_h (hi_P X Y Z) a b c i := by
          intro i hi
          have ei := e i
          have := hle i hi
          have := Int.mul_nonpos_of_nonneg_of_nonpos (Int.le_of_lt T0) (show gv_d w (hi_P X Y Z i) - l ≤ 0 by omega)
          exact gv_m6 hs (by omega)
        have dd : 0 < hi_h (hi_P X Y Z) a b c d := by
          have h1 := pos d hd
          have h2 : hi_h (hi_P X Y Z) a b c d ≠ 0 := fun h => by have := (z0 d).mp h; omega
          omega
        have k2 : hp_ab X Y Z a b c n = true ∧ ¬ hp_be X Y Z a b c n = true := ⟨ab.mpr ⟨d, hd, dd⟩, fun h => by
          obtain ⟨i, hi, hlt⟩ := be.mp h
          have := pos i hi
          omega⟩
        rw [if_neg (fun k1 : hp_be X Y Z a b c n = true ∧ ¬ hp_ab X Y Z a b c n = true => k1.2 k2.1), if_pos k2]
        exact hl_put _ _ _ _ _ _
      · have neg : ∀ i, i < n → hi_h (hi_P X Y Z) a b c i ≤ 0 := by
          intro i hi
          have ei := e i
          have := hle i hi
          have := Int.mul_nonpos_of_nonneg_of_nonpos (Int.le_of_lt T0) (show gv_d w (hi_P X Y Z i) - l ≤ 0 by omega)
          exact gv_m3 hs (by omega)
        have dd : hi_h (hi_P X Y Z) a b c d < 0 := by
          have h1 := neg d hd
          have h2 : hi_h (hi_P X Y Z) a b c d ≠ 0 := fun h => by have := (z0 d).mp h; omega
          omega
        have k1 : hp_be X Y Z a b c n = true ∧ ¬ hp_ab X Y Z a b c n = true := ⟨be.mpr ⟨d, hd, dd⟩, fun h => by
          obtain ⟨i, hi, hlt⟩ := ab.mp h
          have := neg i hi
          omega⟩
        rw [if_pos k1]
        exact hl_put _ _ _ _ _ _
    obtain ⟨f, hf, ef⟩ := hp_a_est (J := hl_has (hp_ms X Y Z a b c n)) (fun a b c S h => hl_try a b c S h) hab hbc hc has S
    refine ⟨f, hf, fun i hi => ?_⟩
    unfold hi_B
    rw [ef, ms i (by omega), z0 i]
    exact ⟨fun k => k.2, fun k => ⟨hi, k⟩⟩
  intro a b c ha hb hc ea eb ec nc
  have nab : a ≠ b := fun e => hf_nc_ne nc (by rw [e])
  have nac : a ≠ c := fun e => hf_nc_ne (hf_nc2 nc) (by rw [e])
  have nbc : b ≠ c := fun e => hf_nc_ne (hf_nc2 (hf_nc1 nc)) (by rw [e])
  rcases Nat.lt_or_gt_of_ne nab with h1 | h1 <;> rcases Nat.lt_or_gt_of_ne nac with h2 | h2 <;> rcases Nat.lt_or_gt_of_ne nbc with h3 | h3
  · exact main a b c h1 h3 hc ea eb ec nc
  · exact main a c b h2 h3 hb ea ec eb (hf_nc2 nc)
  · exact absurd h1 (by omega)
  · exact main c a b h2 h1 hb ec ea eb (hf_nc1 (hf_nc2 nc))
  · exact main b a c h1 h2 hc eb ea ec (hf_nc1 nc)
  · exact absurd h1 (by omega)
  · exact main b c a h3 h2 ha eb ec ea (hf_nc2 (hf_nc1 nc))
  · exact main c b a h3 h1 ha ec eb ea (hf_nc2 (hf_nc1 (hf_nc2 nc)))
theorem hl_inj {X Y Z : Nat → Int32} {n : Nat} (R : hi_rg X Y Z n) : ∀ i j, i < n → j < n → hi_P X Y Z i ≠ hi_P X Y Z j → gv_d (1000000, 1000, 1) (hi_P X Y Z i) ≠ gv_d (1000000, 1000, 1) (hi_P X Y Z j) := by
  intro i j hi hj hne e
  apply hne
  have ri := R i hi
  have rj := R j hj
  unfold hi_in at ri rj
  simp only [gv_d] at e
  exact Prod.ext (by omega) (Prod.ext (by omega) (by omega))
theorem hl_cap {X Y Z : Nat → Int32} {n : Nat} (hn : n ≤ 14) (R : hi_rg X Y Z n) {S : hp_T} (h : hi_I (hi_P X Y Z) n S) : S.1 ≤ 24 := by
  have := hf_cap h.1 (1000000, 1000, 1) (hl_inj R)
  omega
theorem hl_ini (P : Nat → gv_V) (n : Nat) (a b c d e : Nat → Int32) : hi_I P n (0, a, b, c, d, e, false) := by
  refine ⟨⟨?_, ?_, ?_, ?_, ?_⟩, ?_, ?_, ?_⟩
  · intro f hf; exact absurd hf (Nat.not_lt_zero _)
  · intro f hf; exact absurd hf (Nat.not_lt_zero _)
  · intro f hf; exact absurd hf (Nat.not_lt_zero _)
  · intro f hf; exact absurd hf (Nat.not_lt_zero _)
  · intro f g hf; exact absurd hf (Nat.not_lt_zero _)
  · intro f hf; exact absurd hf (Nat.not_lt_zero _)
  · intro hf; exact absurd hf (Nat.not_lt_zero _)
  · intro hf; exact absurd (show false = true from hf) (by decide)
theorem hl_all {X Y Z : Nat → Int32} {n : Nat} (hn : n ≤ 14) (R : hi_rg X Y Z n) (a b c d e : Nat → Int32) :
    hi_I (hi_P X Y Z) n (hp_a X Y Z n (0, a, b, c, d, e, false)) ∧ hf_CP n (hi_P X Y Z) (hp_a X Y Z n (0, a, b, c, d, e, false)).1 (hi_B (hp_a X Y Z n (0, a, b, c, d, e, false)).2.2.2.2.2.1) ∧ (hp_a X Y Z n (0, a, b, c, d, e, false)).1 ≤ 24 ∧ ((hp_a X Y Z n (0, a, b, c, d, e, false)).2.2.2.2.2.2 = true ↔ 0 < (hp_a X Y Z n (0, a, b, c, d, e, false)).1) := by
  have h1 : hi_I (hi_P X Y Z) n (hp_a X Y Z n (0, a, b, c, d, e, false)) := hp_a_inv (fun a b c S hab hbc hc h => hi_try hn R a b c S hab hbc hc h) _ (hl_ini _ _ _ _ _ _ _)
  have h2 := hl_cp hn R (0, a, b, c, d, e, false)
  exact ⟨h1, h2, hl_cap hn R h1, fun h => hf_some h2 (h1.2.2.2 h), h1.2.2.1⟩
end
section
/-! the component's readers -/
variable {post : Int32 → Prop} {rm : Int32} {n F : Nat} {X Y Z A B C D M : Nat → Int32}
theorem wx_in1 {f p : Nat} (hf : f < 24) (hp : p < 32) (e : hi_B M f p = true) (h : post 1) : wpX_isInFacet post (rm, nI n, nI F, X, Y, Z, A, B, C, D, M) (nI f) (nI p) := by
  refine ⟨vp_in_nI hf (by omega), ?_⟩
  rw [nI_clamp (show f < 2 ^ 31 by omega)]
  exact br_t ((bb_get (M f) hp).mpr e) h
theorem wx_in0 {f p : Nat} (hf : f < 24) (hp : p < 32) (e : ¬ hi_B M f p = true) (h : post 0) : wpX_isInFacet post (rm, nI n, nI F, X, Y, Z, A, B, C, D, M) (nI f) (nI p) := by
  refine ⟨vp_in_nI hf (by omega), ?_⟩
  rw [nI_clamp (show f < 2 ^ 31 by omega)]
  exact br_f (fun k => e ((bb_get (M f) hp).mp k)) h
theorem wx_cntL {a b : Nat} (ha : a < 32) (hb : b < 32) (hF : F ≤ 24) (h : post (nI (he_w F (hi_B M) a b))) : ∀ d j, j + d = F → wX_countFacetsWith_5 post (nI a) (nI b) rm (nI n) (nI F) X Y Z A B C D M (d + 1) (nI (hs_c (fun f => hi_B M f a && hi_B M f b) j)) (nI j) := by
  intro d
  induction d with
  | zero =>
    intro j hj
    have e : j = F := by omega
    rw [e]
    exact br_t (nI_le (Nat.le_refl F) (by omega)) h
  | succ d ih =>
    intro j hj
    have hj' : ¬ nI F ≤ nI j := nI_ge (by omega) (by omega)
    have i1 := ih (j + 1) (by omega)
    by_cases ea : hi_B M j a = true
    · by_cases eb : hi_B M j b = true
      · rw [hs_c_t (p := fun f => hi_B M f a && hi_B M f b) (he_and' ea eb)] at i1
        exact br_f hj' (wx_in1 (by omega) ha ea (br_f (by decide) (wx_in1 (by omega) hb eb (br_f (by decide) (nm_r (nI_1 _) (nm_r (nI_1 _) i1))))))
      · rw [hs_c_f (p := fun f => hi_B M f a && hi_B M f b) (fun k => eb (he_and k).2)] at i1
        exact br_f hj' (wx_in1 (by omega) ha ea (br_f (by decide) (wx_in0 (by omega) hb eb (br_t rfl (nm_r (nI_1 _) i1)))))
    · rw [hs_c_f (p := fun f => hi_B M f a && hi_B M f b) (fun k => ea (he_and k).1)] at i1
      exact br_f hj' (wx_in0 (by omega) ha ea (br_t rfl (nm_r (nI_1 _) i1)))
theorem wx_cnt {a b : Nat} (ha : a < 32) (hb : b < 32) (hF : F ≤ 24) (h : post (nI (he_w F (hi_B M) a b))) : wpX_countFacetsWith post (rm, nI n, nI F, X, Y, Z, A, B, C, D, M) (nI a) (nI b) :=
  ⟨F + 1, wx_cntL ha hb hF h F 0 (by omega)⟩
theorem wx_wle (F : Nat) (B : Nat → Nat → Bool) (a b : Nat) : he_w F B a b ≤ F := hs_c_le _ F
theorem wx_cor1 {p : Nat} (hp : p < 32) (hF : F ≤ 24) (e : 3 ≤ he_w F (hi_B M) p p) (h : post 1) : wpX_isCorner post (rm, nI n, nI F, X, Y, Z, A, B, C, D, M) (nI p) :=
  wx_cnt (post := fun r_1 => (((r_1 < 3 → (post 0)) ∧ (¬ r_1 < 3 → (post 1))))) hp hp hF (br_f (nI_nlt (b := 3) e (by have := wx_wle F (hi_B M) p p; omega)) h)
theorem wx_cor0 {p : Nat} (hp : p < 32) (hF : F ≤ 24) (e : ¬ 3 ≤ he_w F (hi_B M) p p) (h : post 0) : wpX_isCorner post (rm, nI n, nI F, X, Y, Z, A, B, C, D, M) (nI p) :=
  wx_cnt (post := fun r_1 => (((r_1 < 3 → (post 0)) ∧ (¬ r_1 < 3 → (post 1))))) hp hp hF (br_t (nI_lt (b := 3) (by omega) (by omega)) h)
theorem wx_edg1 {a b : Nat} (ha : a < 32) (hb : b < 32) (hF : F ≤ 24) (e : he_e F (hi_B M) a b = true) (h : post 1) : wpX_isEdge post (rm, nI n, nI F, X, Y, Z, A, B, C, D, M) (nI a) (nI b) := by
  have e' := of_decide_eq_true e
  have hab : ¬ nI a = nI b := fun k => e'.1 ((nI_eq (by omega) (by omega)).mp k)
  refine br_f hab (wx_cor1 ha hF e'.2.1 (br_f (by decide) (wx_cor1 hb hF e'.2.2.1 (br_f (by decide) (wx_cnt ha hb hF (br_f (nI_nlt (b := 2) e'.2.2.2 ?_) h))))))
  have := wx_wle F (hi_B M) a b
  omega
theorem wx_edg0 {a b : Nat} (ha : a < 32) (hb : b < 32) (hF : F ≤ 24) (e : ¬ he_e F (hi_B M) a b = true) (h : post 0) : wpX_isEdge post (rm, nI n, nI F, X, Y, Z, A, B, C, D, M) (nI a) (nI b) := by
  by_cases hab : a = b
  · exact br_t (by rw [hab]) h
  · have hab' : ¬ nI a = nI b := fun k => hab ((nI_eq (by omega) (by omega)).mp k)
    by_cases ca : 3 ≤ he_w F (hi_B M) a a
    · by_cases cb : 3 ≤ he_w F (hi_B M) b b
      · have w : he_w F (hi_B M) a b < 2 := by
          apply Classical.byContradiction
          intro k
          exact e (decide_eq_true ⟨hab, ca, cb, by omega⟩)
        exact br_f hab' (wx_cor1 ha hF ca (br_f (by decide) (wx_cor1 hb hF cb (br_f (by decide) (wx_cnt ha hb hF (br_t (nI_lt (b := 2) w (by omega)) h))))))
      · exact br_f hab' (wx_cor1 ha hF ca (br_f (by decide) (wx_cor0 hb hF cb (br_t rfl h))))
    · exact br_f hab' (wx_cor0 ha hF ca (br_t rfl h))
def ww_in (v k : Int32) : Prop := ¬ v < -k ∧ ¬ k < v
theorem wx_wi1 {x y z k : Int32} (hx : ww_in x k) (hy : ww_in y k) (hz : ww_in z k) (h : post 1) : wpX_isWithin post x y z k :=
  br_f hx.1 (br_f hx.2 (br_f hy.1 (br_f hy.2 (br_f hz.1 (br_f hz.2 h)))))
theorem wx_wi0 {x y z k : Int32} (hn : ¬ (ww_in x k ∧ ww_in y k ∧ ww_in z k)) (h : post 0) : wpX_isWithin post x y z k := by
  by_cases h1 : x < -k
  · exact br_t h1 h
  by_cases h2 : k < x
  · exact br_f h1 (br_t h2 h)
  by_cases h3 : y < -k
  · exact br_f h1 (br_f h2 (br_t h3 h))
  by_cases h4 : k < y
  · exact br_f h1 (br_f h2 (br_f h3 (br_t h4 h)))
  by_cases h5 : z < -k
  · exact br_f h1 (br_f h2 (br_f h3 (br_f h4 (br_t h5 h))))
  by_cases h6 : k < z
  · exact br_f h1 (br_f h2 (br_f h3 (br_f h4 (br_f h5 (br_t h6 h)))))
  exact absurd ⟨⟨h1, h2⟩, ⟨h3, h4⟩, ⟨h5, h6⟩⟩ hn
theorem wx_so1 (h0 : 0 < F) (hF : F ≤ 24) (h : post 1) : wpX_solid post (rm, nI n, nI F, X, Y, Z, A, B, C, D, M) := br_f (nI_nle h0 (by omega)) h
theorem wx_so0 (h0 : F = 0) (h : post 0) : wpX_solid post (rm, nI n, nI F, X, Y, Z, A, B, C, D, M) := by
  subst h0
  exact br_t (by decide) h
theorem wx_pt1 {p : Nat} (hp : p < n) (hn : n ≤ 14) (h : post 1) : wpX_isPoint post (rm, nI n, nI F, X, Y, Z, A, B, C, D, M) (nI p) :=
  br_f (nI_pos (by omega)) (br_f (nI_ge hp (by omega)) h)
theorem wx_pt0 {x : Int32} (hx : ∀ p, p < n → x ≠ nI p) (hn : n ≤ 14) (h : post 0) : wpX_isPoint post (rm, nI n, nI F, X, Y, Z, A, B, C, D, M) x := by
  by_cases h1 : x < 0
  · exact br_t h1 h
  · obtain ⟨j, hj, rfl⟩ := nI_of h1
    have : n ≤ j := Classical.byContradiction fun k => hx j (by omega) rfl
    exact br_f h1 (br_t (nI_le this hj) h)
theorem wx_hab {f : Nat} (hf : f < 24) {x y z : Int32} (h : post (A f * x + B f * y + C f * z - D f)) : wpX_heightAbove post (rm, nI n, nI F, X, Y, Z, A, B, C, D, M) (nI f) x y z := by
  have k := vp_in_nI hf (show 24 < 2 ^ 31 by omega)
  refine ⟨k, k, k, k, ?_⟩
  rw [nI_clamp (show f < 2 ^ 31 by omega)]
  exact h
end
section
/-! the other side's readers -/
variable {post : Int32 → Prop} {rm so : Int32} {n F : Nat} {X Y Z A B C D M : Nat → Int32}
theorem wy_bit {f p : Nat} (hf : f < 364) (hp : p < 32) : ((M (nI f).toNatClampNeg >>> (nI p &&& 31)) &&& 1 = 1) ↔ hi_B M f p = true := by
  rw [nI_clamp (show f < 2 ^ 31 by omega)]
  exact bb_get (M f) hp
theorem wy_cntL {a b : Nat} (ha : a < 32) (hb : b < 32) (hF : F ≤ 24) (h : post (nI (he_w F (hi_B M) a b))) : ∀ d j, j + d = F → wY_together_5 post (nI a) (nI b) rm (nI n) so (nI F) X Y Z A B C D M (d + 1) (nI (hs_c (fun f => hi_B M f a && hi_B M f b) j)) (nI j) := by
  intro d
  induction d with
  | zero =>
    intro j hj
    have e : j = F := by omega
    rw [e]
    exact br_t (nI_le (Nat.le_refl F) (by omega)) h
  | succ d ih =>
    intro j hj
    have hj' : ¬ nI F ≤ nI j := nI_ge (by omega) (by omega)
    have i1 := ih (j + 1) (by omega)
    have vi : vp_in (nI j) 364 := vp_in_nI (by omega) (by omega)
    have ba := wy_bit (M := M) (f := j) (p := a) (by omega) ha
    have bb := wy_bit (M := M) (f := j) (p := b) (by omega) hb
    by_cases ea : hi_B M j a = true
    · by_cases eb : hi_B M j b = true
      · rw [hs_c_t (p := fun f => hi_B M f a && hi_B M f b) (he_and' ea eb)] at i1
        exact br_f hj' ⟨vi, br_t (ba.mpr ea) ⟨vi, br_t (bb.mpr eb) (nm_r (nI_1 _) (nm_r (nI_1 _) i1))⟩⟩
      · rw [hs_c_f (p := fun f => hi_B M f a && hi_B M f b) (fun k => eb (he_and k).2)] at i1
        exact br_f hj' ⟨vi, br_t (ba.mpr ea) ⟨vi, br_f (fun k => eb (bb.mp k)) (nm_r (nI_1 _) i1)⟩⟩
    · rw [hs_c_f (p := fun f => hi_B M f a && hi_B M f b) (fun k => ea (he_and k).1)] at i1
      exact br_f hj' ⟨vi, br_f (fun k => ea (ba.mp k)) (nm_r (nI_1 _) i1)⟩
theorem wy_cnt {a b : Nat} (ha : a < 32) (hb : b < 32) (hF : F ≤ 24) (h : post (nI (he_w F (hi_B M) a b))) : wpY_together post (rm, nI n, so, nI F, X, Y, Z, A, B, C, D, M) (nI a) (nI b) :=
  ⟨F + 1, wy_cntL ha hb hF h F 0 (by omega)⟩
theorem wy_cor1 {p : Nat} (hp : p < 32) (hF : F ≤ 24) (e : 3 ≤ he_w F (hi_B M) p p) (h : post 1) : wpY_isCorner post (rm, nI n, so, nI F, X, Y, Z, A, B, C, D, M) (nI p) :=
  wy_cnt (post := fun r_1 => (((r_1 < 3 → (post 0)) ∧ (¬ r_1 < 3 → (post 1))))) hp hp hF (br_f (nI_nlt (b := 3) e (by have := wx_wle F (hi_B M) p p; omega)) h)
theorem wy_cor0 {p : Nat} (hp : p < 32) (hF : F ≤ 24) (e : ¬ 3 ≤ he_w F (hi_B M) p p) (h : post 0) : wpY_isCorner post (rm, nI n, so, nI F, X, Y, Z, A, B, C, D, M) (nI p) :=
  wy_cnt (post := fun r_1 => (((r_1 < 3 → (post 0)) ∧ (¬ r_1 < 3 → (post 1))))) hp hp hF (br_t (nI_lt (b := 3) (by omega) (by omega)) h)
theorem wy_edg1 {a b : Nat} (ha : a < 32) (hb : b < 32) (hF : F ≤ 24) (e : he_e F (hi_B M) a b = true) (h : post 1) : wpY_isEdge post (rm, nI n, so, nI F, X, Y, Z, A, B, C, D, M) (nI a) (nI b) := by
  have e' := of_decide_eq_true e
  have hab : ¬ nI a = nI b := fun k => e'.1 ((nI_eq (by omega) (by omega)).mp k)
  refine br_f hab (wy_cor1 ha hF e'.2.1 (br_f (by decide) (wy_cor1 hb hF e'.2.2.1 (br_f (by decide) (wy_cnt ha hb hF (br_f (nI_nlt (b := 2) e'.2.2.2 ?_) h))))))
  have := wx_wle F (hi_B M) a b
  omega
theorem wy_edg0 {a b : Nat} (ha : a < 32) (hb : b < 32) (hF : F ≤ 24) (e : ¬ he_e F (hi_B M) a b = true) (h : post 0) : wpY_isEdge post (rm, nI n, so, nI F, X, Y, Z, A, B, C, D, M) (nI a) (nI b) := by
  by_cases hab : a = b
  · exact br_t (by rw [hab]) h
  · have hab' : ¬ nI a = nI b := fun k => hab ((nI_eq (by omega) (by omega)).mp k)
    by_cases ca : 3 ≤ he_w F (hi_B M) a a
    · by_cases cb : 3 ≤ he_w F (hi_B M) b b
      · have w : he_w F (hi_B M) a b < 2 := by
          apply Classical.byContradiction
          intro k
          exact e (decide_eq_true ⟨hab, ca, cb, by omega⟩)
        exact br_f hab' (wy_cor1 ha hF ca (br_f (by decide) (wy_cor1 hb hF cb (br_f (by decide) (wy_cnt ha hb hF (br_t (nI_lt (b := 2) w (by omega)) h))))))
      · exact br_f hab' (wy_cor1 ha hF ca (br_f (by decide) (wy_cor0 hb hF cb (br_t rfl h))))
    · exact br_f hab' (wy_cor0 ha hF ca (br_t rfl h))
theorem wy_wi1 {x k : Int32} (hx : ww_in x k) (h : post 1) : wpY_within post x k := br_f hx.1 (br_f hx.2 h)
theorem wy_wi0 {x k : Int32} (hn : ¬ ww_in x k) (h : post 0) : wpY_within post x k := by
  by_cases h1 : x < -k
  · exact br_t h1 h
  by_cases h2 : k < x
  · exact br_f h1 (br_t h2 h)
  exact absurd ⟨h1, h2⟩ hn
theorem wy_w3a {P Q : Prop} {x y z k : Int32} (hx : ww_in x k) (hy : ww_in y k) (hz : ww_in z k) (h : Q) :
    wpY_within (fun r_1 => (((r_1 = 0 → P) ∧ (¬ r_1 = 0 → (wpY_within (fun r_3 => (((r_3 = 0 → P) ∧ (¬ r_3 = 0 → (wpY_within (fun r_5 => (((r_5 = 0 → P) ∧ (¬ r_5 = 0 → Q)))) z k))))) y k))))) x k :=
  wy_wi1 hx (br_f (by decide) (wy_wi1 hy (br_f (by decide) (wy_wi1 hz (br_f (by decide) h)))))
theorem wy_w3b {P Q : Prop} {x y z k : Int32} (hn : ¬ (ww_in x k ∧ ww_in y k ∧ ww_in z k)) (h : P) :
    wpY_within (fun r_1 => (((r_1 = 0 → P) ∧ (¬ r_1 = 0 → (wpY_within (fun r_3 => (((r_3 = 0 → P) ∧ (¬ r_3 = 0 → (wpY_within (fun r_5 => (((r_5 = 0 → P) ∧ (¬ r_5 = 0 → Q)))) z k))))) y k))))) x k := by
  by_cases hx : ww_in x k
  · by_cases hy : ww_in y k
    · have hz : ¬ ww_in z k := fun hz => hn ⟨hx, hy, hz⟩
      exact wy_wi1 hx (br_f (by decide) (wy_wi1 hy (br_f (by decide) (wy_wi0 hz (br_t rfl h)))))
    · exact wy_wi1 hx (br_f (by decide) (wy_wi0 hy (br_t rfl h)))
  · exact wy_wi0 hx (br_t rfl h)
def wt_s (F : Nat) : Int32 := if 0 < F then 1 else 0
theorem wt_s1 {F : Nat} (h : 0 < F) : wt_s F = 1 := if_pos h
theorem wt_s0 {F : Nat} (h : F = 0) : wt_s F = 0 := if_neg (by omega)
theorem wy_rp0 {x y z : Int32} (hn : ¬ (ww_in x 200 ∧ ww_in y 200 ∧ ww_in z 200)) (h : post (-1)) : wpY_refusePlace post (rm, nI n, so, nI F, X, Y, Z, A, B, C, D, M) x y z := wy_w3b hn h
theorem wy_rp1 {x y z : Int32} (hx : ww_in x 200) (hy : ww_in y 200) (hz : ww_in z 200) (e : so = 0) (h : post (-5)) : wpY_refusePlace post (rm, nI n, so, nI F, X, Y, Z, A, B, C, D, M) x y z := wy_w3a hx hy hz (br_t e h)
theorem wy_rp2 {x y z : Int32} (hx : ww_in x 200) (hy : ww_in y 200) (hz : ww_in z 200) (e : so = 1) (h : post 0) : wpY_refusePlace post (rm, nI n, so, nI F, X, Y, Z, A, B, C, D, M) x y z := wy_w3a hx hy hz (br_f (by rw [e]; decide) h)
theorem wy_rq0 {x y : Int32} (hn : n ≤ 14) (hx : (∀ p, p < n → x ≠ nI p) ∨ (∀ p, p < n → y ≠ nI p)) (h : post (-6)) : wpY_refusePoints post (rm, nI n, so, nI F, X, Y, Z, A, B, C, D, M) x y := by
  by_cases h1 : x < 0
  · exact br_t h1 h
  obtain ⟨i, hi, rfl⟩ := nI_of h1
  by_cases h2 : nI n ≤ nI i
  · exact br_f h1 (br_t h2 h)
  have hin : i < n := Classical.byContradiction fun k => h2 (nI_le (by omega) hi)
  by_cases h3 : y < 0
  · exact br_f h1 (br_f h2 (br_t h3 h))
  obtain ⟨j, hj, rfl⟩ := nI_of h3
  rcases hx with hx | hx
  · exact absurd rfl (hx i hin)
  · have hjn : n ≤ j := Classical.byContradiction fun k => hx j (by omega) rfl
    exact br_f h1 (br_f h2 (br_f h3 (br_f (nI_nlt hjn hj) h)))
theorem wy_rq1 {a b : Nat} (hn : n ≤ 14) (ha : a < n) (hb : b < n) (e : so = 0) (h : post (-5)) : wpY_refusePoints post (rm, nI n, so, nI F, X, Y, Z, A, B, C, D, M) (nI a) (nI b) :=
  br_f (nI_pos (by omega)) (br_f (nI_ge ha (by omega)) (br_f (nI_pos (by omega)) (br_t (nI_lt hb (by omega)) (br_t e h))))
theorem wy_rq2 {a b : Nat} (hn : n ≤ 14) (ha : a < n) (hb : b < n) (e : so = 1) (h : post 0) : wpY_refusePoints post (rm, nI n, so, nI F, X, Y, Z, A, B, C, D, M) (nI a) (nI b) :=
  br_f (nI_pos (by omega)) (br_f (nI_ge ha (by omega)) (br_f (nI_pos (by omega)) (br_t (nI_lt hb (by omega)) (br_f (by rw [e]; decide) h))))
theorem wy_abv {f : Nat} (hf : f < 24) {x y z : Int32} (h : post (A f * x + B f * y + C f * z - D f)) : wpY_above post (rm, nI n, so, nI F, X, Y, Z, A, B, C, D, M) (nI f) x y z := by
  have k := vp_in_nI (show f < 364 by omega) (show 364 < 2 ^ 31 by omega)
  refine ⟨k, k, k, k, ?_⟩
  rw [nI_clamp (show f < 2 ^ 31 by omega)]
  exact h
end
section
/-! the component's search for facet planes is the fold -/
variable {rm : Int32} {n : Nat} {X Y Z : Nat → Int32}
def wt_i (b : Bool) : Int32 := if b = true then 1 else 0
theorem wt_1 {b : Bool} (h : b = true) : wt_i b = 1 := if_pos h
theorem wt_0 {b : Bool} (h : ¬ b = true) : wt_i b = 0 := if_neg h
theorem wt_n {b : Bool} (h : b = true) : ¬ wt_i b = 0 := by rw [wt_1 h]; decide
abbrev wx_st (rm : Int32) (n : Nat) (X Y Z : Nat → Int32) (S : hp_T) : SX := (rm, nI n, nI S.1, X, Y, Z, S.2.1, S.2.2.1, S.2.2.2.1, S.2.2.2.2.1, S.2.2.2.2.2.1)
theorem wx_knL1 {post : Int32 → Prop} {F : Nat} {A B C D M : Nat → Int32} {k : Int32} (hF : F ≤ 24) (h : post 1) : ∀ d j, j + d = F → (∃ f, j ≤ f ∧ f < F ∧ M f = k) → wX_isKnownFacet_2 post k rm (nI n) (nI F) X Y Z A B C D M (d + 1) (nI j) := by
  intro d
  induction d with
  | zero => intro j hj ⟨f, h1, h2, _⟩; exact absurd h1 (by omega)
  | succ d ih =>
    intro j hj ⟨f, h1, h2, h3⟩
    have hj' : ¬ nI F ≤ nI j := nI_ge (by omega) (by omega)
    have vi : vp_in (nI j) 24 := vp_in_nI (by omega) (by omega)
    have cl : (nI j).toNatClampNeg = j := nI_clamp (by omega)
    by_cases e : M j = k
    · exact br_f hj' ⟨vi, br_t (by rw [cl]; exact e) h⟩
    · refine br_f hj' ⟨vi, br_f (by rw [cl]; exact e) (nm_r (nI_1 _) (ih (j + 1) (by omega) ⟨f, ?_, h2, h3⟩))⟩
      by_cases e2 : f = j
      · rw [e2] at h3; exact absurd h3 e
      · omega
theorem wx_knL0 {post : Int32 → Prop} {F : Nat} {A B C D M : Nat → Int32} {k : Int32} (hF : F ≤ 24) (h : post 0) (hk : ∀ f, f < F → M f ≠ k) : ∀ d j, j + d = F → wX_isKnownFacet_2 post k rm (nI n) (nI F) X Y Z A B C D M (d + 1) (nI j) := by
  intro d
  induction d with
  | zero =>
    intro j hj
    exact br_t (nI_le (by omega) (by omega)) h
  | succ d ih =>
    intro j hj
    have hj' : ¬ nI F ≤ nI j := nI_ge (by omega) (by omega)
    have vi : vp_in (nI j) 24 := vp_in_nI (by omega) (by omega)
    have cl : (nI j).toNatClampNeg = j := nI_clamp (by omega)
    exact br_f hj' ⟨vi, br_f (by rw [cl]; exact hk j (by omega)) (nm_r (nI_1 _) (ih (j + 1) (by omega)))⟩
theorem wt_kn {M : Nat → Int32} {F : Nat} {k : Int32} (h : hp_kn M F k = true) : ∃ f, 0 ≤ f ∧ f < F ∧ M f = k := by
  unfold hp_kn at h
  rw [hp_any_t] at h
  obtain ⟨f, hf, e⟩ := h
  exact ⟨f, Nat.zero_le _, hf, of_decide_eq_true e⟩
theorem wt_nk {M : Nat → Int32} {F : Nat} {k : Int32} (h : ¬ hp_kn M F k = true) : ∀ f, f < F → M f ≠ k := by
  intro f hf e
  apply h
  unfold hp_kn
  rw [hp_any_t]
  exact ⟨f, hf, decide_eq_true e⟩
theorem wx_keep {post : SX → Prop} {S : hp_T} {nx ny nz lv mk : Int32} (hF : S.1 ≤ 24) (cap : (hp_keep S nx ny nz lv mk).1 ≤ 24) (h : post (wx_st rm n X Y Z (hp_keep S nx ny nz lv mk))) : wpX_keepFacet post (wx_st rm n X Y Z S) nx ny nz lv mk := by
  unfold hp_keep at h cap
  by_cases kn : hp_kn S.2.2.2.2.2.1 S.1 mk = true
  · rw [if_pos kn] at h
    exact ⟨S.1 + 1, wx_knL1 hF (br_f (by decide) h) S.1 0 (by omega) (wt_kn kn)⟩
  · rw [if_neg kn] at h cap
    have c : S.1 + 1 ≤ 24 := cap
    have vi : vp_in (nI S.1) 24 := vp_in_nI (by omega) (by omega)
    have cl : (nI S.1).toNatClampNeg = S.1 := nI_clamp (by omega)
    have lt : nI S.1 < 24 := nI_lt (b := 24) (by omega) (by omega)
    refine ⟨S.1 + 1, wx_knL0 hF (br_t rfl (br_t lt ⟨vi, ?_⟩)) (wt_nk kn) S.1 0 (by omega)⟩
    rw [cl]
    exact nm_e ⟨vi, nm_e ⟨vi, nm_e ⟨vi, nm_e ⟨vi, nm_e (nm_r (nI_1 _) h)⟩⟩⟩⟩
theorem wx_tp2 {post : SX → Prop} {S : hp_T} {a b c : Nat} (hF : S.1 ≤ 24) (cap : (hp_try X Y Z n a b c S).1 ≤ 24) (h : post (wx_st rm n X Y Z (hp_try X Y Z n a b c S))) (k1 : ¬ (hp_be X Y Z a b c n = true ∧ ¬ hp_ab X Y Z a b c n = true)) :
    wX_tryPlane_282 post (hp_nx X Y Z a b c) (hp_ny X Y Z a b c) (hp_nz X Y Z a b c) (hp_lv X Y Z a b c) (wt_i (hp_ab X Y Z a b c n)) (wt_i (hp_be X Y Z a b c n)) (hp_ms X Y Z a b c n) rm (nI n) (nI S.1) X Y Z S.2.1 S.2.2.1 S.2.2.2.1 S.2.2.2.2.1 S.2.2.2.2.2.1 := by
  unfold hp_try at h cap
  rw [if_neg k1] at h cap
  by_cases ab : hp_ab X Y Z a b c n = true
  · by_cases be : hp_be X Y Z a b c n = true
    · rw [if_neg (fun k : hp_ab X Y Z a b c n = true ∧ ¬ hp_be X Y Z a b c n = true => k.2 be)] at h
      exact br_f (wt_n ab) (br_f (wt_n be) h)
    · have k2 : hp_ab X Y Z a b c n = true ∧ ¬ hp_be X Y Z a b c n = true := ⟨ab, be⟩
      rw [if_pos k2] at h cap
      exact br_f (wt_n ab) (br_t (wt_0 be) (wx_keep (S := hp_sl S true) hF cap h))
  · rw [if_neg (fun k : hp_ab X Y Z a b c n = true ∧ ¬ hp_be X Y Z a b c n = true => ab k.1)] at h
    exact br_t (wt_0 ab) h
theorem wt_step {p : Nat → Bool} {k : Nat} (h : p k = true) : wt_i (hp_any p (k + 1)) = 1 := wt_1 (by simp only [hp_any, h, Bool.or_true])
theorem wt_stay {p : Nat → Bool} {k : Nat} (h : ¬ p k = true) : wt_i (hp_any p (k + 1)) = wt_i (hp_any p k) := by
  have h' : p k = false := by
    cases hp : p k with
    | false => rfl
    | true => exact absurd hp h
  simp only [hp_any, h', Bool.or_false]
theorem wt_dn {p : Prop} [Decidable p] (h : ¬ p) : ¬ decide p = true := fun k => h (of_decide_eq_true k)
theorem wx_tpL {post : SX → Prop} {S : hp_T} {a b c : Nat} (hn : n ≤ 14) (hF : S.1 ≤ 24) (cap : (hp_try X Y Z n a b c S).1 ≤ 24) (h : post (wx_st rm n X Y Z (hp_try X Y Z n a b c S))) : ∀ d p, p + d = n →
    wX_tryPlane_172 post (hp_nx X Y Z a b c) (hp_ny X Y Z a b c) (hp_nz X Y Z a b c) (hp_lv X Y Z a b c) rm (nI n) (nI S.1) X Y Z S.2.1 S.2.2.1 S.2.2.2.1 S.2.2.2.2.1 S.2.2.2.2.2.1 (d + 1) (wt_i (hp_ab X Y Z a b c p)) (wt_i (hp_be X Y Z a b c p)) (hp_ms X Y Z a b c p) (nI p) := by
  intro d
  induction d with
  | zero =>
    intro p hp
    have e : p = n := by omega
    rw [e]
    refine br_t (nI_le (Nat.le_refl n) (by omega)) ?_
    by_cases be : hp_be X Y Z a b c n = true
    · by_cases ab : hp_ab X Y Z a b c n = true
      · exact br_f (wt_n be) (br_f (wt_n ab) (wx_tp2 hF cap h fun k => k.2 ab))
      · have k1 : hp_be X Y Z a b c n = true ∧ ¬ hp_ab X Y Z a b c n = true := ⟨be, ab⟩
        unfold hp_try at h cap
        rw [if_pos k1] at h cap
        exact br_f (wt_n be) (br_t (wt_0 ab) (wx_keep (S := hp_sl S true) hF cap h))
    · exact br_t (wt_0 be) (wx_tp2 hF cap h fun k => be k.1)
  | succ d ih =>
    intro p hp
    have hp' : ¬ nI n ≤ nI p := nI_ge (by omega) (by omega)
    have vi : vp_in (nI p) 14 := vp_in_nI (by omega) (by omega)
    have cl : (nI p).toNatClampNeg = p := nI_clamp (by omega)
    have i1 := ih (p + 1) (by omega)
    refine br_f hp' ⟨vi, vi, vi, ?_⟩
    rw [cl]
    refine nm_r (e' := hp_ht X Y Z a b c p) rfl ?_
    by_cases h1 : hp_ht X Y Z a b c p ≤ 0
    · by_cases h2 : 0 ≤ hp_ht X Y Z a b c p
      · have z : hp_ht X Y Z a b c p = 0 := Int32.le_antisymm h1 h2
        have e1 : wt_i (hp_ab X Y Z a b c (p + 1)) = wt_i (hp_ab X Y Z a b c p) := wt_stay (wt_dn (by rw [z]; decide))
        have e2 : wt_i (hp_be X Y Z a b c (p + 1)) = wt_i (hp_be X Y Z a b c p) := wt_stay (wt_dn (by rw [z]; decide))
        have e3 : hp_ms X Y Z a b c (p + 1) = hp_ms X Y Z a b c p ||| ((1 : Int32) <<< (nI p &&& 31)) := if_pos (decide_eq_true z)
        rw [e1, e2, e3] at i1
        exact br_t h1 (br_t h2 (nm_e (nm_r (nI_1 _) i1)))
      · have e1 : wt_i (hp_ab X Y Z a b c (p + 1)) = wt_i (hp_ab X Y Z a b c p) := wt_stay (wt_dn (Int32.not_lt.mpr h1))
        have e2 : wt_i (hp_be X Y Z a b c (p + 1)) = 1 := wt_step (decide_eq_true (Int32.not_le.mp h2))
        have e3 : hp_ms X Y Z a b c (p + 1) = hp_ms X Y Z a b c p := if_neg (wt_dn fun z => h2 (by rw [z]; decide))
        rw [e1, e2, e3] at i1
        exact br_t h1 (br_f h2 (nm_r (nI_1 _) i1))
    · have e1 : wt_i (hp_ab X Y Z a b c (p + 1)) = 1 := wt_step (decide_eq_true (Int32.not_le.mp h1))
      have e2 : wt_i (hp_be X Y Z a b c (p + 1)) = wt_i (hp_be X Y Z a b c p) := wt_stay (wt_dn fun k => h1 (Int32.le_of_lt k))
      have e3 : hp_ms X Y Z a b c (p + 1) = hp_ms X Y Z a b c p := if_neg (wt_dn fun z => h1 (by rw [z]; decide))
      rw [e1, e2, e3] at i1
      exact br_f h1 (nm_r (nI_1 _) i1)
theorem wx_try {post : SX → Prop} {S : hp_T} {a b c : Nat} (hn : n ≤ 14) (ha : a < n) (hb : b < n) (hc : c < n) (hF : S.1 ≤ 24) (cap : (hp_try X Y Z n a b c S).1 ≤ 24) (h : post (wx_st rm n X Y Z (hp_try X Y Z n a b c S))) : wpX_tryPlane post (wx_st rm n X Y Z S) (nI a) (nI b) (nI c) := by
  have va : vp_in (nI a) 14 := vp_in_nI (by omega) (by omega)
  have vb : vp_in (nI b) 14 := vp_in_nI (by omega) (by omega)
  have vc : vp_in (nI c) 14 := vp_in_nI (by omega) (by omega)
  have la : (nI a).toNatClampNeg = a := nI_clamp (by omega)
  have lb : (nI b).toNatClampNeg = b := nI_clamp (by omega)
  have lc : (nI c).toNatClampNeg = c := nI_clamp (by omega)
  unfold wpX_tryPlane
  dsimp only
  rw [la, lb, lc]
  refine ⟨vb, va, nm_e ⟨vb, va, nm_e ⟨vb, va, nm_e ⟨vc, va, nm_e ⟨vc, va, nm_e ⟨vc, va, nm_e ?_⟩⟩⟩⟩⟩⟩
  refine nm_r (e' := hp_nx X Y Z a b c) rfl (nm_r (e' := hp_ny X Y Z a b c) rfl (nm_r (e' := hp_nz X Y Z a b c) rfl ⟨va, va, va, nm_r (e' := hp_lv X Y Z a b c) rfl ⟨n + 1, ?_⟩⟩))
  exact wx_tpL hn hF cap h n 0 (by omega)
theorem wx_f31 (hn : n ≤ 14) (R : hi_rg X Y Z n) {post : SX → Prop} {J7 J19 : Int32 → Int32 → Int32 → Int32 → (Nat → Int32) → (Nat → Int32) → (Nat → Int32) → (Nat → Int32) → (Nat → Int32) → (Nat → Int32) → (Nat → Int32) → (Nat → Int32) → Prop} {a b : Nat} (hab : a < b) (hb : b < n) : ∀ d c, c + d = n → b < c → ∀ S : hp_T, hi_I (hi_P X Y Z) n S →
    J19 (nI (b + 1)) rm (nI n) (nI (hp_fold (fun c S => hp_try X Y Z n a b c S) d c S).1) X Y Z (hp_fold (fun c S => hp_try X Y Z n a b c S) d c S).2.1 (hp_fold (fun c S => hp_try X Y Z n a b c S) d c S).2.2.1 (hp_fold (fun c S => hp_try X Y Z n a b c S) d c S).2.2.2.1 (hp_fold (fun c S => hp_try X Y Z n a b c S) d c S).2.2.2.2.1 (hp_fold (fun c S => hp_try X Y Z n a b c S) d c S).2.2.2.2.2.1 →
    wX_findFacets_31 post J7 J19 (nI a) (nI b) (d + 1) (nI c) rm (nI n) (nI S.1) X Y Z S.2.1 S.2.2.1 S.2.2.2.1 S.2.2.2.2.1 S.2.2.2.2.2.1 := by
  intro d
  induction d with
  | zero =>
    intro c hc hbc S I h
    exact br_t (nI_le (by omega) (by omega)) (nm_r (nI_1 _) h)
  | succ d ih =>
    intro c hc hbc S I h
    have I2 := hi_try hn R a b c S hab hbc (by omega) I
    refine br_f (nI_ge (by omega) (by omega)) (wx_try hn (by omega) hb (by omega) (hl_cap hn R I) (hl_cap hn R I2) ?_)
    exact nm_r (nI_1 _) (ih (c + 1) (by omega) (by omega) _ I2 h)
theorem wt_Ic (hn : n ≤ 14) (R : hi_rg X Y Z n) {a b : Nat} (hab : a < b) (hb : b < n) {S : hp_T} (I : hi_I (hi_P X Y Z) n S) : hi_I (hi_P X Y Z) n (hp_c X Y Z n a b S) :=
  hp_fold_inv (I := hi_I (hi_P X Y Z) n) (lo := b + 1) (hi := n) (fun c S h1 h2 I => hi_try hn R a b c S hab (by omega) h2 I) _ _ S (by omega) (by omega) I
theorem wx_f19 (hn : n ≤ 14) (R : hi_rg X Y Z n) {post : SX → Prop} {J7 : Int32 → Int32 → Int32 → Int32 → (Nat → Int32) → (Nat → Int32) → (Nat → Int32) → (Nat → Int32) → (Nat → Int32) → (Nat → Int32) → (Nat → Int32) → (Nat → Int32) → Prop} {a : Nat} (ha : a < n) : ∀ d b, b + d = n → a < b → ∀ S : hp_T, hi_I (hi_P X Y Z) n S →
    J7 (nI (a + 1)) rm (nI n) (nI (hp_fold (fun b S => hp_c X Y Z n a b S) d b S).1) X Y Z (hp_fold (fun b S => hp_c X Y Z n a b S) d b S).2.1 (hp_fold (fun b S => hp_c X Y Z n a b S) d b S).2.2.1 (hp_fold (fun b S => hp_c X Y Z n a b S) d b S).2.2.2.1 (hp_fold (fun b S => hp_c X Y Z n a b S) d b S).2.2.2.2.1 (hp_fold (fun b S => hp_c X Y Z n a b S) d b S).2.2.2.2.2.1 →
    wX_findFacets_19 post J7 (nI a) (d + 1) (nI b) rm (nI n) (nI S.1) X Y Z S.2.1 S.2.2.1 S.2.2.2.1 S.2.2.2.2.1 S.2.2.2.2.2.1 := by
  intro d
  induction d with
  | zero =>
    intro b hb hab S I h
    exact br_t (nI_le (by omega) (by omega)) (nm_r (nI_1 _) h)
  | succ d ih =>
    intro b hb hab S I h
    refine br_f (nI_ge (by omega) (by omega)) (nm_r (nI_1 _) ⟨n - (b + 1) + 1, ?_⟩)
    exact wx_f31 hn R hab (by omega) (n - (b + 1)) (b + 1) (by omega) (by omega) S I (ih (b + 1) (by omega) (by omega) (hp_c X Y Z n a b S) (wt_Ic hn R hab (by omega) I) h)
theorem wt_Ib (hn : n ≤ 14) (R : hi_rg X Y Z n) {a : Nat} (ha : a < n) {S : hp_T} (I : hi_I (hi_P X Y Z) n S) : hi_I (hi_P X Y Z) n (hp_b X Y Z n a S) :=
  hp_fold_inv (I := hi_I (hi_P X Y Z) n) (lo := a + 1) (hi := n) (fun b S h1 h2 I => wt_Ic hn R (by omega) h2 I) _ _ S (by omega) (by omega) I
theorem wx_f7 (hn : n ≤ 14) (R : hi_rg X Y Z n) {post : SX → Prop} : ∀ d a, a + d = n → ∀ S : hp_T, hi_I (hi_P X Y Z) n S →
    post (wx_st rm n X Y Z (hp_fold (fun a S => hp_b X Y Z n a S) d a S)) →
    wX_findFacets_7 post (d + 1) (nI a) rm (nI n) (nI S.1) X Y Z S.2.1 S.2.2.1 S.2.2.2.1 S.2.2.2.2.1 S.2.2.2.2.2.1 := by
  intro d
  induction d with
  | zero =>
    intro a ha S I h
    exact br_t (nI_le (by omega) (by omega)) h
  | succ d ih =>
    intro a ha S I h
    refine br_f (nI_ge (by omega) (by omega)) (nm_r (nI_1 _) ⟨n - (a + 1) + 1, ?_⟩)
    exact wx_f19 hn R (by omega) (n - (a + 1)) (a + 1) (by omega) (by omega) S I (ih (a + 1) (by omega) (hp_b X Y Z n a S) (wt_Ib hn R (by omega) I) h)
theorem wx_find (hn : n ≤ 14) (R : hi_rg X Y Z n) {post : SX → Prop} {F : Int32} {A B C D M : Nat → Int32} (h : post (wx_st rm n X Y Z (hp_a X Y Z n (0, A, B, C, D, M, false)))) : wpX_findFacets post (rm, nI n, F, X, Y, Z, A, B, C, D, M) :=
  ⟨n + 1, wx_f7 hn R n 0 (by omega) (0, A, B, C, D, M, false) (hl_ini _ _ _ _ _ _ _) h⟩
end
section
/-! the other side's search is the same fold -/
variable {rm : Int32} {n : Nat} {X Y Z : Nat → Int32}
abbrev wy_st (rm : Int32) (n : Nat) (X Y Z : Nat → Int32) (S : hp_T) : SY := (rm, nI n, wt_i S.2.2.2.2.2.2, nI S.1, X, Y, Z, S.2.1, S.2.2.1, S.2.2.2.1, S.2.2.2.2.1, S.2.2.2.2.2.1)
theorem wy_kpL1 {post : SY → Prop} {so : Int32} {F : Nat} {A B C D M : Nat → Int32} {x1 x2 x3 x4 k : Int32} (hF : F ≤ 24) (h : post (rm, nI n, so, nI F, X, Y, Z, A, B, C, D, M)) : ∀ d j, j + d = F → (∃ f, j ≤ f ∧ f < F ∧ M f = k) → wY_keep_3 post x1 x2 x3 x4 k rm (nI n) so (nI F) X Y Z A B C D M (d + 1) (nI j) := by
  intro d
  induction d with
  | zero => intro j hj ⟨f, h1, h2, _⟩; exact absurd h1 (by omega)
  | succ d ih =>
    intro j hj ⟨f, h1, h2, h3⟩
    have hj' : ¬ nI F ≤ nI j := nI_ge (by omega) (by omega)
    have vi : vp_in (nI j) 364 := vp_in_nI (by omega) (by omega)
    have cl : (nI j).toNatClampNeg = j := nI_clamp (by omega)
    by_cases e : M j = k
    · exact br_f hj' ⟨vi, br_t (by rw [cl]; exact e) h⟩
    · refine br_f hj' ⟨vi, br_f (by rw [cl]; exact e) (nm_r (nI_1 _) (ih (j + 1) (by omega) ⟨f, ?_, h2, h3⟩))⟩
      by_cases e2 : f = j
      · rw [e2] at h3; exact absurd h3 e
      · omega
theorem wy_kpL0 {post : SY → Prop} {so : Int32} {F : Nat} {A B C D M : Nat → Int32} {x1 x2 x3 x4 k : Int32} (hF : F ≤ 24) (h : post (rm, nI n, so, nI (F + 1), X, Y, Z, upd A F x1, upd B F x2, upd C F x3, upd D F x4, upd M F k)) (hk : ∀ f, f < F → M f ≠ k) : ∀ d j, j + d = F → wY_keep_3 post x1 x2 x3 x4 k rm (nI n) so (nI F) X Y Z A B C D M (d + 1) (nI j) := by
  intro d
  induction d with
  | zero =>
    intro j hj
    have vi : vp_in (nI F) 364 := vp_in_nI (by omega) (by omega)
    have cl : (nI F).toNatClampNeg = F := nI_clamp (by omega)
    refine br_t (nI_le (by omega) (by omega)) ⟨vi, ?_⟩
    rw [cl]
    exact nm_e ⟨vi, nm_e ⟨vi, nm_e ⟨vi, nm_e ⟨vi, nm_e (nm_r (nI_1 _) h)⟩⟩⟩⟩
  | succ d ih =>
    intro j hj
    have hj' : ¬ nI F ≤ nI j := nI_ge (by omega) (by omega)
    have vi : vp_in (nI j) 364 := vp_in_nI (by omega) (by omega)
    have cl : (nI j).toNatClampNeg = j := nI_clamp (by omega)
    exact br_f hj' ⟨vi, br_f (by rw [cl]; exact hk j (by omega)) (nm_r (nI_1 _) (ih (j + 1) (by omega)))⟩
theorem wy_keep {post : SY → Prop} {S : hp_T} {nx ny nz lv mk : Int32} (hF : S.1 ≤ 24) (h : post (wy_st rm n X Y Z (hp_keep S nx ny nz lv mk))) : wpY_keep post (wy_st rm n X Y Z S) nx ny nz lv mk := by
  unfold hp_keep at h
  by_cases kn : hp_kn S.2.2.2.2.2.1 S.1 mk = true
  · rw [if_pos kn] at h
    exact ⟨S.1 + 1, wy_kpL1 hF h S.1 0 (by omega) (wt_kn kn)⟩
  · rw [if_neg kn] at h
    exact ⟨S.1 + 1, wy_kpL0 hF h (wt_nk kn) S.1 0 (by omega)⟩
theorem wy_t309 {post : SY → Prop} {S : hp_T} {x1 x2 x3 x4 k : Int32} {ab be : Bool} (h1 : ab = true → be = true → post (wy_st rm n X Y Z S)) (h2 : ¬ ab = true → post (wy_st rm n X Y Z S)) (h3 : ab = true → ¬ be = true → wpY_keep post (wy_st rm n X Y Z S) (-x1) (-x2) (-x3) (-x4) k) :
    wY_tryPlane_309 post x1 x2 x3 x4 (wt_i ab) (wt_i be) k rm (nI n) (wt_i S.2.2.2.2.2.2) (nI S.1) X Y Z S.2.1 S.2.2.1 S.2.2.2.1 S.2.2.2.2.1 S.2.2.2.2.2.1 := by
  by_cases a : ab = true
  · by_cases b : be = true
    · exact br_f (wt_n a) (br_f (wt_n b) (h1 a b))
    · exact br_f (wt_n a) (br_t (wt_0 b) (h3 a b))
  · exact br_t (wt_0 a) (h2 a)
theorem wy_sl (S : hp_T) : wy_st rm n X Y Z (hp_sl S true) = (rm, nI n, 1, nI S.1, X, Y, Z, S.2.1, S.2.2.1, S.2.2.2.1, S.2.2.2.2.1, S.2.2.2.2.2.1) := by
  have : (S.2.2.2.2.2.2 || true) = true := Bool.or_true _
  simp only [wy_st, hp_sl, wt_1 this]
theorem wy_tpE {post : SY → Prop} {S : hp_T} {a b c : Nat} (hF : S.1 ≤ 24) (h : post (wy_st rm n X Y Z (hp_try X Y Z n a b c S))) :
    ((wt_i (hp_ab X Y Z a b c n) = 0 → ((wt_i (hp_be X Y Z a b c n) = 0 → wY_tryPlane_285 post (hp_nx X Y Z a b c) (hp_ny X Y Z a b c) (hp_nz X Y Z a b c) (hp_lv X Y Z a b c) (wt_i (hp_ab X Y Z a b c n)) (wt_i (hp_be X Y Z a b c n)) (hp_ms X Y Z a b c n) rm (nI n) (wt_i S.2.2.2.2.2.2) (nI S.1) X Y Z S.2.1 S.2.2.1 S.2.2.2.1 S.2.2.2.2.1 S.2.2.2.2.2.1) ∧ (¬ wt_i (hp_be X Y Z a b c n) = 0 → wY_tryPlane_280 post (hp_nx X Y Z a b c) (hp_ny X Y Z a b c) (hp_nz X Y Z a b c) (hp_lv X Y Z a b c) (wt_i (hp_ab X Y Z a b c n)) (wt_i (hp_be X Y Z a b c n)) (hp_ms X Y Z a b c n) rm (nI n) (wt_i S.2.2.2.2.2.2) (nI S.1) X Y Z S.2.1 S.2.2.1 S.2.2.2.1 S.2.2.2.2.1 S.2.2.2.2.2.1))) ∧ (¬ wt_i (hp_ab X Y Z a b c n) = 0 → wY_tryPlane_280 post (hp_nx X Y Z a b c) (hp_ny X Y Z a b c) (hp_nz X Y Z a b c) (hp_lv X Y Z a b c) (wt_i (hp_ab X Y Z a b c n)) (wt_i (hp_be X Y Z a b c n)) (hp_ms X Y Z a b c n) rm (nI n) (wt_i S.2.2.2.2.2.2) (nI S.1) X Y Z S.2.1 S.2.2.1 S.2.2.2.1 S.2.2.2.2.1 S.2.2.2.2.2.1)) := by
  have sl := wy_sl (rm := rm) (n := n) (X := X) (Y := Y) (Z := Z) S
  have sl1 : wt_i (S.2.2.2.2.2.2 || true) = 1 := wt_1 (Bool.or_true _)
  unfold hp_try at h
  by_cases ab : hp_ab X Y Z a b c n = true
  · by_cases be : hp_be X Y Z a b c n = true
    · rw [if_neg (fun k : hp_be X Y Z a b c n = true ∧ ¬ hp_ab X Y Z a b c n = true => k.2 ab), if_neg (fun k : hp_ab X Y Z a b c n = true ∧ ¬ hp_be X Y Z a b c n = true => k.2 be), ab, Bool.true_or, sl] at h
      exact br_f (wt_n ab) (br_f (wt_n be) (br_f (wt_n ab) (br_f (wt_n ab) (br_f (wt_n be) h))))
    · have k2 : hp_ab X Y Z a b c n = true ∧ ¬ hp_be X Y Z a b c n = true := ⟨ab, be⟩
      rw [if_neg (fun k : hp_be X Y Z a b c n = true ∧ ¬ hp_ab X Y Z a b c n = true => k.2 ab), if_pos k2] at h
      have g := wy_keep (rm := rm) (n := n) (X := X) (Y := Y) (Z := Z) (S := hp_sl S true) hF h
      rw [sl] at g
      exact br_f (wt_n ab) (br_t (wt_0 be) (br_f (wt_n ab) (br_t (wt_0 be) g)))
  · by_cases be : hp_be X Y Z a b c n = true
    · have k1 : hp_be X Y Z a b c n = true ∧ ¬ hp_ab X Y Z a b c n = true := ⟨be, ab⟩
      rw [if_pos k1] at h
      have g := wy_keep (rm := rm) (n := n) (X := X) (Y := Y) (Z := Z) (S := hp_sl S true) (post := fun u => match u with | (r0, r1, r2, r3, r4, r5, r6, r7, r8, r9, r10, r11) => wY_tryPlane_309 post (hp_nx X Y Z a b c) (hp_ny X Y Z a b c) (hp_nz X Y Z a b c) (hp_lv X Y Z a b c) (wt_i (hp_ab X Y Z a b c n)) (wt_i (hp_be X Y Z a b c n)) (hp_ms X Y Z a b c n) r0 r1 r2 r3 r4 r5 r6 r7 r8 r9 r10 r11) hF (br_t (wt_0 ab) h)
      rw [sl] at g
      exact br_t (wt_0 ab) (br_f (wt_n be) (br_f (wt_n be) (br_t (wt_0 ab) g)))
    · have ab' : hp_ab X Y Z a b c n = false := by
        cases hx : hp_ab X Y Z a b c n with
        | false => rfl
        | true => exact absurd hx ab
      have be' : hp_be X Y Z a b c n = false := by
        cases hx : hp_be X Y Z a b c n with
        | false => rfl
        | true => exact absurd hx be
      have sf : hp_sl S false = S := by simp only [hp_sl, Bool.or_false]
      rw [if_neg (fun k : hp_be X Y Z a b c n = true ∧ ¬ hp_ab X Y Z a b c n = true => be k.1), if_neg (fun k : hp_ab X Y Z a b c n = true ∧ ¬ hp_be X Y Z a b c n = true => ab k.1), ab', be', Bool.or_false, sf] at h
      exact br_t (wt_0 ab) (br_t (wt_0 be) (br_t (wt_0 be) (br_t (wt_0 ab) h)))
theorem wy_tpL {post : SY → Prop} {S : hp_T} {a b c : Nat} (hn : n ≤ 14) (hF : S.1 ≤ 24) (h : post (wy_st rm n X Y Z (hp_try X Y Z n a b c S))) : ∀ d p, p + d = n →
    wY_tryPlane_188 post (hp_nx X Y Z a b c) (hp_ny X Y Z a b c) (hp_nz X Y Z a b c) (hp_lv X Y Z a b c) rm (nI n) (wt_i S.2.2.2.2.2.2) (nI S.1) X Y Z S.2.1 S.2.2.1 S.2.2.2.1 S.2.2.2.2.1 S.2.2.2.2.2.1 (d + 1) (wt_i (hp_ab X Y Z a b c p)) (wt_i (hp_be X Y Z a b c p)) (hp_ms X Y Z a b c p) (nI p) := by
  intro d
  induction d with
  | zero =>
    intro p hp
    have e : p = n := by omega
    rw [e]
    exact br_t (nI_le (Nat.le_refl n) (by omega)) (wy_tpE hF h)
  | succ d ih =>
    intro p hp
    have hp' : ¬ nI n ≤ nI p := nI_ge (by omega) (by omega)
    have vi : vp_in (nI p) 14 := vp_in_nI (by omega) (by omega)
    have cl : (nI p).toNatClampNeg = p := nI_clamp (by omega)
    have i1 := ih (p + 1) (by omega)
    refine br_f hp' ⟨vi, vi, vi, ?_⟩
    rw [cl]
    refine nm_r (e' := hp_ht X Y Z a b c p) rfl ?_
    by_cases h1 : hp_ht X Y Z a b c p ≤ 0
    · by_cases h2 : 0 ≤ hp_ht X Y Z a b c p
      · have z : hp_ht X Y Z a b c p = 0 := Int32.le_antisymm h1 h2
        have e1 : wt_i (hp_ab X Y Z a b c (p + 1)) = wt_i (hp_ab X Y Z a b c p) := wt_stay (wt_dn (by rw [z]; decide))
        have e2 : wt_i (hp_be X Y Z a b c (p + 1)) = wt_i (hp_be X Y Z a b c p) := wt_stay (wt_dn (by rw [z]; decide))
        have e3 : hp_ms X Y Z a b c (p + 1) = hp_ms X Y Z a b c p ||| ((1 : Int32) <<< (nI p &&& 31)) := if_pos (decide_eq_true z)
        rw [e1, e2, e3] at i1
        exact br_t h1 (br_t h2 (br_t z (nm_e (nm_r (nI_1 _) i1))))
      · have z : ¬ hp_ht X Y Z a b c p = 0 := fun z => h2 (by rw [z]; decide)
        have e1 : wt_i (hp_ab X Y Z a b c (p + 1)) = wt_i (hp_ab X Y Z a b c p) := wt_stay (wt_dn (Int32.not_lt.mpr h1))
        have e2 : wt_i (hp_be X Y Z a b c (p + 1)) = 1 := wt_step (decide_eq_true (Int32.not_le.mp h2))
        have e3 : hp_ms X Y Z a b c (p + 1) = hp_ms X Y Z a b c p := if_neg (wt_dn z)
        rw [e1, e2, e3] at i1
        exact br_t h1 (br_f h2 (br_f z (nm_r (nI_1 _) i1)))
    · have z : ¬ hp_ht X Y Z a b c p = 0 := fun z => h1 (by rw [z]; decide)
      have h2 : 0 ≤ hp_ht X Y Z a b c p := Int32.le_of_lt (Int32.not_le.mp h1)
      have e1 : wt_i (hp_ab X Y Z a b c (p + 1)) = 1 := wt_step (decide_eq_true (Int32.not_le.mp h1))
      have e2 : wt_i (hp_be X Y Z a b c (p + 1)) = wt_i (hp_be X Y Z a b c p) := wt_stay (wt_dn fun k => h1 (Int32.le_of_lt k))
      have e3 : hp_ms X Y Z a b c (p + 1) = hp_ms X Y Z a b c p := if_neg (wt_dn z)
      rw [e1, e2, e3] at i1
      exact br_f h1 (br_t h2 (br_f z (nm_r (nI_1 _) i1)))
theorem wy_145 {post : SY → Prop} {S : hp_T} {a b c : Nat} (hn : n ≤ 14) (ha : a < n) (hF : S.1 ≤ 24) (h : post (wy_st rm n X Y Z (hp_try X Y Z n a b c S))) : wY_tryPlane_145 post (nI a) (hp_nx X Y Z a b c) (hp_ny X Y Z a b c) (hp_nz X Y Z a b c) rm (nI n) (wt_i S.2.2.2.2.2.2) (nI S.1) X Y Z S.2.1 S.2.2.1 S.2.2.2.1 S.2.2.2.2.1 S.2.2.2.2.2.1 := by
  have va : vp_in (nI a) 14 := vp_in_nI (by omega) (by omega)
  have la : (nI a).toNatClampNeg = a := nI_clamp (by omega)
  unfold wY_tryPlane_145
  rw [la]
  exact ⟨va, va, va, nm_r (e' := hp_lv X Y Z a b c) rfl ⟨n + 1, wy_tpL hn hF h n 0 (by omega)⟩⟩
theorem wy_flat {a b c : Nat} (hx : hp_nx X Y Z a b c = 0) (hy : hp_ny X Y Z a b c = 0) (hz : hp_nz X Y Z a b c = 0) (S : hp_T) : hp_try X Y Z n a b c S = S := by
  have z : ∀ p, hp_ht X Y Z a b c p = 0 := by
    intro p
    unfold hp_ht hp_lv
    rw [hx, hy, hz]
    simp
  have ab : ¬ hp_ab X Y Z a b c n = true := by
    unfold hp_ab
    rw [hp_any_t]
    intro ⟨i, _, h⟩
    have h' := of_decide_eq_true h
    rw [z i] at h'
    exact absurd h' (by decide)
  have be : ¬ hp_be X Y Z a b c n = true := by
    unfold hp_be
    rw [hp_any_t]
    intro ⟨i, _, h⟩
    have h' := of_decide_eq_true h
    rw [z i] at h'
    exact absurd h' (by decide)
  have ab' : hp_ab X Y Z a b c n = false := by
    cases hx : hp_ab X Y Z a b c n with
    | false => rfl
    | true => exact absurd hx ab
  have be' : hp_be X Y Z a b c n = false := by
    cases hx : hp_be X Y Z a b c n with
    | false => rfl
    | true => exact absurd hx be
  unfold hp_try
  rw [if_neg (fun k : hp_be X Y Z a b c n = true ∧ ¬ hp_ab X Y Z a b c n = true => be k.1), if_neg (fun k : hp_ab X Y Z a b c n = true ∧ ¬ hp_be X Y Z a b c n = true => ab k.1), ab', be', Bool.or_false]
  simp only [hp_sl, Bool.or_false]
theorem wy_try {post : SY → Prop} {S : hp_T} {a b c : Nat} (hn : n ≤ 14) (ha : a < n) (hb : b < n) (hc : c < n) (hF : S.1 ≤ 24) (h : post (wy_st rm n X Y Z (hp_try X Y Z n a b c S))) : wpY_tryPlane post (wy_st rm n X Y Z S) (nI a) (nI b) (nI c) := by
  have va : vp_in (nI a) 14 := vp_in_nI (by omega) (by omega)
  have vb : vp_in (nI b) 14 := vp_in_nI (by omega) (by omega)
  have vc : vp_in (nI c) 14 := vp_in_nI (by omega) (by omega)
  have la : (nI a).toNatClampNeg = a := nI_clamp (by omega)
  have lb : (nI b).toNatClampNeg = b := nI_clamp (by omega)
  have lc : (nI c).toNatClampNeg = c := nI_clamp (by omega)
  have go := wy_145 hn ha hF h
  unfold wpY_tryPlane
  dsimp only
  rw [la, lb, lc]
  refine ⟨vb, va, nm_e ⟨vb, va, nm_e ⟨vb, va, nm_e ⟨vc, va, nm_e ⟨vc, va, nm_e ⟨vc, va, nm_e ?_⟩⟩⟩⟩⟩⟩
  refine nm_r (e' := hp_nx X Y Z a b c) rfl (nm_r (e' := hp_ny X Y Z a b c) rfl (nm_r (e' := hp_nz X Y Z a b c) rfl ?_))
  by_cases hx : hp_nx X Y Z a b c = 0
  · by_cases hy : hp_ny X Y Z a b c = 0
    · by_cases hz : hp_nz X Y Z a b c = 0
      · rw [wy_flat hx hy hz S] at h
        exact br_t hx (br_t hy (br_t hz h))
      · exact br_t hx (br_t hy (br_f hz go))
    · exact br_t hx (br_f hy go)
  · exact br_f hx go
theorem wy_t4 (hn : n ≤ 14) (R : hi_rg X Y Z n) {post : SY → Prop} {a b : Nat} (hab : a < b) (hb : b < n) : ∀ d c, c + d = n → b < c → ∀ S : hp_T, hi_I (hi_P X Y Z) n S →
    post (wy_st rm n X Y Z (hp_fold (fun c S => hp_try X Y Z n a b c S) d c S)) →
    wY_triples_4 post (nI a) (nI b) (d + 1) (nI c) rm (nI n) (wt_i S.2.2.2.2.2.2) (nI S.1) X Y Z S.2.1 S.2.2.1 S.2.2.2.1 S.2.2.2.2.1 S.2.2.2.2.2.1 := by
  intro d
  induction d with
  | zero =>
    intro c hc hbc S I h
    exact br_t (nI_le (by omega) (by omega)) h
  | succ d ih =>
    intro c hc hbc S I h
    have I2 := hi_try hn R a b c S hab hbc (by omega) I
    refine br_f (nI_ge (by omega) (by omega)) (wy_try hn (by omega) hb (by omega) (hl_cap hn R I) ?_)
    exact nm_r (nI_1 _) (ih (c + 1) (by omega) (by omega) _ I2 h)
theorem wy_trp (hn : n ≤ 14) (R : hi_rg X Y Z n) {post : SY → Prop} {a b : Nat} (hab : a < b) (hb : b < n) {S : hp_T} (I : hi_I (hi_P X Y Z) n S) (h : post (wy_st rm n X Y Z (hp_c X Y Z n a b S))) : wpY_triples post (wy_st rm n X Y Z S) (nI a) (nI b) :=
  nm_r (nI_1 _) ⟨n - (b + 1) + 1, wy_t4 hn R hab hb (n - (b + 1)) (b + 1) (by omega) (by omega) S I h⟩
theorem wy_g24 (hn : n ≤ 14) (R : hi_rg X Y Z n) {post : SY → Prop} {J12 : Int32 → Int32 → Int32 → Int32 → Int32 → (Nat → Int32) → (Nat → Int32) → (Nat → Int32) → (Nat → Int32) → (Nat → Int32) → (Nat → Int32) → (Nat → Int32) → (Nat → Int32) → Prop} {a : Nat} (ha : a < n) : ∀ d b, b + d = n → a < b → ∀ S : hp_T, hi_I (hi_P X Y Z) n S →
    J12 (nI (a + 1)) rm (nI n) (wt_i (hp_fold (fun b S => hp_c X Y Z n a b S) d b S).2.2.2.2.2.2) (nI (hp_fold (fun b S => hp_c X Y Z n a b S) d b S).1) X Y Z (hp_fold (fun b S => hp_c X Y Z n a b S) d b S).2.1 (hp_fold (fun b S => hp_c X Y Z n a b S) d b S).2.2.1 (hp_fold (fun b S => hp_c X Y Z n a b S) d b S).2.2.2.1 (hp_fold (fun b S => hp_c X Y Z n a b S) d b S).2.2.2.2.1 (hp_fold (fun b S => hp_c X Y Z n a b S) d b S).2.2.2.2.2.1 →
    wY_gather_24 post J12 (nI a) (d + 1) (nI b) rm (nI n) (wt_i S.2.2.2.2.2.2) (nI S.1) X Y Z S.2.1 S.2.2.1 S.2.2.2.1 S.2.2.2.2.1 S.2.2.2.2.2.1 := by
  intro d
  induction d with
  | zero =>
    intro b hb hab S I h
    exact br_t (nI_le (by omega) (by omega)) (nm_r (nI_1 _) h)
  | succ d ih =>
    intro b hb hab S I h
    refine br_f (nI_ge (by omega) (by omega)) (wy_trp hn R hab (by omega) I ?_)
    exact nm_r (nI_1 _) (ih (b + 1) (by omega) (by omega) (hp_c X Y Z n a b S) (wt_Ic hn R hab (by omega) I) h)
theorem wy_g12 (hn : n ≤ 14) (R : hi_rg X Y Z n) {post : SY → Prop} : ∀ d a, a + d = n → ∀ S : hp_T, hi_I (hi_P X Y Z) n S →
    post (wy_st rm n X Y Z (hp_fold (fun a S => hp_b X Y Z n a S) d a S)) →
    wY_gather_12 post (d + 1) (nI a) rm (nI n) (wt_i S.2.2.2.2.2.2) (nI S.1) X Y Z S.2.1 S.2.2.1 S.2.2.2.1 S.2.2.2.2.1 S.2.2.2.2.2.1 := by
  intro d
  induction d with
  | zero =>
    intro a ha S I h
    exact br_t (nI_le (by omega) (by omega)) h
  | succ d ih =>
    intro a ha S I h
    refine br_f (nI_ge (by omega) (by omega)) (nm_r (nI_1 _) ⟨n - (a + 1) + 1, ?_⟩)
    exact wy_g24 hn R (by omega) (n - (a + 1)) (a + 1) (by omega) (by omega) S I (ih (a + 1) (by omega) (hp_b X Y Z n a S) (wt_Ib hn R (by omega) I) h)
theorem wy_find (hn : n ≤ 14) (R : hi_rg X Y Z n) {post : SY → Prop} {so F : Int32} {A B C D M : Nat → Int32} (h : post (wy_st rm n X Y Z (hp_a X Y Z n (0, A, B, C, D, M, false)))) : wpY_gather post (rm, nI n, so, F, X, Y, Z, A, B, C, D, M) :=
  ⟨n + 1, wy_g12 hn R n 0 (by omega) (0, A, B, C, D, M, false) (hl_ini _ _ _ _ _ _ _) h⟩
end
section
/-! the questions, both sides in step -/
variable {rm so : Int32} {n F : Nat} {X Y Z A B C D M : Nat → Int32}
theorem wq_side (hF : F ≤ 24) (x y z : Int32) : ∀ d j, j + d = F → ∀ t : Bool, ∃ r : Int32, (∀ post : Int32 → Prop, post r → wX_side_30 post x y z rm (nI n) (nI F) X Y Z A B C D M (d + 1) (if t = true then 1 else 0) (nI j)) ∧ (∀ post : Int32 → Prop, post r → wY_side_23 post x y z rm (nI n) so (nI F) X Y Z A B C D M (d + 1) (if t = true then 1 else 2) (nI j)) := by
  intro d
  induction d with
  | zero =>
    intro j hj t
    have hl : nI F ≤ nI j := nI_le (by omega) (by omega)
    cases t with
    | true => exact ⟨1, fun post h => br_t hl (br_f (by decide) h), fun post h => br_t hl h⟩
    | false => exact ⟨2, fun post h => br_t hl (br_t rfl h), fun post h => br_t hl h⟩
  | succ d ih =>
    intro j hj t
    have hj' : ¬ nI F ≤ nI j := nI_ge (by omega) (by omega)
    by_cases h1 : A j * x + B j * y + C j * z - D j ≤ 0
    · by_cases h2 : A j * x + B j * y + C j * z - D j = 0
      · obtain ⟨r, hX, hY⟩ := ih (j + 1) (by omega) true
        exact ⟨r, fun post h => br_f hj' (wx_hab (by omega) (br_t h1 (br_t h2 (nm_r (nI_1 _) (hX post h))))), fun post h => br_f hj' (wy_abv (by omega) (br_t h1 (br_t h2 (nm_r (nI_1 _) (hY post h)))))⟩
      · obtain ⟨r, hX, hY⟩ := ih (j + 1) (by omega) t
        exact ⟨r, fun post h => br_f hj' (wx_hab (by omega) (br_t h1 (br_f h2 (nm_r (nI_1 _) (hX post h))))), fun post h => br_f hj' (wy_abv (by omega) (br_t h1 (br_f h2 (nm_r (nI_1 _) (hY post h)))))⟩
    · exact ⟨0, fun post h => br_f hj' (wx_hab (by omega) (br_f h1 h)), fun post h => br_f hj' (wy_abv (by omega) (br_f h1 h))⟩
theorem wq_vis (hF : F ≤ 24) (x y z : Int32) : ∀ d j, j + d = F → ∀ c : Int32, ∃ r : Int32, (∀ post : Int32 → Prop, post r → wX_visible_30 post x y z rm (nI n) (nI F) X Y Z A B C D M (d + 1) c (nI j)) ∧ (∀ post : Int32 → Prop, post r → wY_visible_23 post x y z rm (nI n) so (nI F) X Y Z A B C D M (d + 1) c (nI j)) := by
  intro d
  induction d with
  | zero =>
    intro j hj c
    have hl : nI F ≤ nI j := nI_le (by omega) (by omega)
    exact ⟨c, fun post h => br_t hl h, fun post h => br_t hl h⟩
  | succ d ih =>
    intro j hj c
    have hj' : ¬ nI F ≤ nI j := nI_ge (by omega) (by omega)
    by_cases h1 : A j * x + B j * y + C j * z - D j ≤ 0
    · obtain ⟨r, hX, hY⟩ := ih (j + 1) (by omega) c
      exact ⟨r, fun post h => br_f hj' (wx_hab (by omega) (br_t h1 (nm_r (nI_1 _) (hX post h)))), fun post h => br_f hj' (wy_abv (by omega) (br_t h1 (nm_r (nI_1 _) (hY post h))))⟩
    · obtain ⟨r, hX, hY⟩ := ih (j + 1) (by omega) (c + 1)
      exact ⟨r, fun post h => br_f hj' (wx_hab (by omega) (br_f h1 (nm_e (nm_r (nI_1 _) (hX post h))))), fun post h => br_f hj' (wy_abv (by omega) (br_f h1 (nm_e (nm_r (nI_1 _) (hY post h)))))⟩
theorem wq_crn (hn : n ≤ 14) (hF : F ≤ 24) : ∀ d j, j + d = n → ∀ c : Int32, ∃ r : Int32, (∀ post : Int32 → Prop, post r → wX_corners_14 post rm (nI n) (nI F) X Y Z A B C D M (d + 1) c (nI j)) ∧ (∀ post : Int32 → Prop, post r → wY_corners_14 post rm (nI n) so (nI F) X Y Z A B C D M (d + 1) c (nI j)) := by
  intro d
  induction d with
  | zero =>
    intro j hj c
    have hl : nI n ≤ nI j := nI_le (by omega) (by omega)
    exact ⟨c, fun post h => br_t hl h, fun post h => br_t hl h⟩
  | succ d ih =>
    intro j hj c
    have hj' : ¬ nI n ≤ nI j := nI_ge (by omega) (by omega)
    by_cases h1 : 3 ≤ he_w F (hi_B M) j j
    · obtain ⟨r, hX, hY⟩ := ih (j + 1) (by omega) (c + 1)
      exact ⟨r, fun post h => br_f hj' (wx_cor1 (by omega) hF h1 (br_f (by decide) (nm_e (nm_r (nI_1 _) (hX post h))))), fun post h => br_f hj' (wy_cor1 (by omega) hF h1 (br_f (by decide) (nm_e (nm_r (nI_1 _) (hY post h)))))⟩
    · obtain ⟨r, hX, hY⟩ := ih (j + 1) (by omega) c
      exact ⟨r, fun post h => br_f hj' (wx_cor0 (by omega) hF h1 (br_t rfl (nm_r (nI_1 _) (hX post h)))), fun post h => br_f hj' (wy_cor0 (by omega) hF h1 (br_t rfl (nm_r (nI_1 _) (hY post h))))⟩
theorem wq_edI (hn : n ≤ 14) (hF : F ≤ 24) {a : Nat} (ha : a < n) : ∀ d j, j + d = n → ∀ c : Int32, ∃ r : Int32, (∀ (post : Int32 → Prop) (J : Int32 → Int32 → Prop), J r (nI (a + 1)) → wX_edges_26 post J (nI a) rm (nI n) (nI F) X Y Z A B C D M (d + 1) c (nI j)) ∧ (∀ (post : Int32 → Prop) (J : Int32 → Int32 → Prop), J r (nI (a + 1)) → wY_edges_26 post J (nI a) rm (nI n) so (nI F) X Y Z A B C D M (d + 1) c (nI j)) := by
  intro d
  induction d with
  | zero =>
    intro j hj c
    have hl : nI n ≤ nI j := nI_le (by omega) (by omega)
    exact ⟨c, fun post J h => br_t hl (nm_r (nI_1 _) h), fun post J h => br_t hl (nm_r (nI_1 _) h)⟩
  | succ d ih =>
    intro j hj c
    have hj' : ¬ nI n ≤ nI j := nI_ge (by omega) (by omega)
    by_cases h1 : he_e F (hi_B M) a j = true
    · obtain ⟨r, hX, hY⟩ := ih (j + 1) (by omega) (c + 1)
      exact ⟨r, fun post J h => br_f hj' (wx_edg1 (by omega) (by omega) hF h1 (br_f (by decide) (nm_e (nm_r (nI_1 _) (hX post J h))))), fun post J h => br_f hj' (wy_edg1 (by omega) (by omega) hF h1 (br_f (by decide) (nm_e (nm_r (nI_1 _) (hY post J h)))))⟩
    · obtain ⟨r, hX, hY⟩ := ih (j + 1) (by omega) c
      exact ⟨r, fun post J h => br_f hj' (wx_edg0 (by omega) (by omega) hF h1 (br_t rfl (nm_r (nI_1 _) (hX post J h)))), fun post J h => br_f hj' (wy_edg0 (by omega) (by omega) hF h1 (br_t rfl (nm_r (nI_1 _) (hY post J h))))⟩
theorem wq_edg (hn : n ≤ 14) (hF : F ≤ 24) : ∀ d j, j + d = n → ∀ c : Int32, ∃ r : Int32, (∀ post : Int32 → Prop, post r → wX_edges_14 post rm (nI n) (nI F) X Y Z A B C D M (d + 1) c (nI j)) ∧ (∀ post : Int32 → Prop, post r → wY_edges_14 post rm (nI n) so (nI F) X Y Z A B C D M (d + 1) c (nI j)) := by
  intro d
  induction d with
  | zero =>
    intro j hj c
    have hl : nI n ≤ nI j := nI_le (by omega) (by omega)
    exact ⟨c, fun post h => br_t hl h, fun post h => br_t hl h⟩
  | succ d ih =>
    intro j hj c
    have hj' : ¬ nI n ≤ nI j := nI_ge (by omega) (by omega)
    obtain ⟨c2, gX, gY⟩ := wq_edI (rm := rm) (so := so) (X := X) (Y := Y) (Z := Z) (A := A) (B := B) (C := C) (D := D) (M := M) hn hF (a := j) (by omega) (n - (j + 1)) (j + 1) (by omega) c
    obtain ⟨r, hX, hY⟩ := ih (j + 1) (by omega) c2
    exact ⟨r, fun post h => br_f hj' (nm_r (nI_1 _) ⟨_, gX post _ (hX post h)⟩), fun post h => br_f hj' (nm_r (nI_1 _) ⟨_, gY post _ (hY post h)⟩)⟩
theorem wq_far (hn : n ≤ 14) (hF : F ≤ 24) (x y z : Int32) : ∀ d j, j + d = n → ∀ b m : Int32, ∃ r : Int32, (∀ post : Int32 → Prop, post r → wX_farthest_33 post x y z rm (nI n) (nI F) X Y Z A B C D M (d + 1) b m (nI j)) ∧ (∀ post : Int32 → Prop, post r → wY_farthest_26 post x y z rm (nI n) so (nI F) X Y Z A B C D M (d + 1) b m (nI j)) := by
  intro d
  induction d with
  | zero =>
    intro j hj b m
    have hl : nI n ≤ nI j := nI_le (by omega) (by omega)
    exact ⟨b, fun post h => br_t hl h, fun post h => br_t hl h⟩
  | succ d ih =>
    intro j hj b m
    have hj' : ¬ nI n ≤ nI j := nI_ge (by omega) (by omega)
    have vi : vp_in (nI j) 14 := vp_in_nI (by omega) (by omega)
    by_cases h1 : 3 ≤ he_w F (hi_B M) j j
    · by_cases h2 : b < 0
      · obtain ⟨r, hX, hY⟩ := ih (j + 1) (by omega) (nI j) (X (nI j).toNatClampNeg * x + Y (nI j).toNatClampNeg * y + Z (nI j).toNatClampNeg * z)
        exact ⟨r, fun post h => br_f hj' (wx_cor1 (by omega) hF h1 (br_f (by decide) ⟨vi, vi, vi, nm_e (br_t h2 (nm_r (nI_1 _) (hX post h)))⟩)), fun post h => br_f hj' ⟨vi, vi, vi, nm_e (wy_cor1 (by omega) hF h1 (br_f (by decide) (br_t h2 (nm_r (nI_1 _) (hY post h)))))⟩⟩
      · by_cases h3 : X (nI j).toNatClampNeg * x + Y (nI j).toNatClampNeg * y + Z (nI j).toNatClampNeg * z ≤ m
        · obtain ⟨r, hX, hY⟩ := ih (j + 1) (by omega) b m
          exact ⟨r, fun post h => br_f hj' (wx_cor1 (by omega) hF h1 (br_f (by decide) ⟨vi, vi, vi, nm_e (br_f h2 (br_t h3 (nm_r (nI_1 _) (hX post h))))⟩)), fun post h => br_f hj' ⟨vi, vi, vi, nm_e (wy_cor1 (by omega) hF h1 (br_f (by decide) (br_f h2 (br_t h3 (nm_r (nI_1 _) (hY post h))))))⟩⟩
        · obtain ⟨r, hX, hY⟩ := ih (j + 1) (by omega) (nI j) (X (nI j).toNatClampNeg * x + Y (nI j).toNatClampNeg * y + Z (nI j).toNatClampNeg * z)
          exact ⟨r, fun post h => br_f hj' (wx_cor1 (by omega) hF h1 (br_f (by decide) ⟨vi, vi, vi, nm_e (br_f h2 (br_f h3 (nm_r (nI_1 _) (hX post h))))⟩)), fun post h => br_f hj' ⟨vi, vi, vi, nm_e (wy_cor1 (by omega) hF h1 (br_f (by decide) (br_f h2 (br_f h3 (nm_r (nI_1 _) (hY post h))))))⟩⟩
    · obtain ⟨r, hX, hY⟩ := ih (j + 1) (by omega) b m
      exact ⟨r, fun post h => br_f hj' (wx_cor0 (by omega) hF h1 (br_t rfl (nm_r (nI_1 _) (hX post h)))), fun post h => br_f hj' ⟨vi, vi, vi, nm_e (wy_cor0 (by omega) hF h1 (br_t rfl (nm_r (nI_1 _) (hY post h))))⟩⟩
end
section
/-! the volume, both sides -/
variable {rm so : Int32} {n F : Nat} {X Y Z A B C D M : Nat → Int32}
theorem wv_det (X Y Z : Nat → Int32) (h a b : Nat) : (X h - X 0) * ((Y a - Y 0) * (Z b - Z 0) - (Z a - Z 0) * (Y b - Y 0)) + (Y h - Y 0) * ((Z a - Z 0) * (X b - X 0) - (X a - X 0) * (Z b - Z 0)) + (Z h - Z 0) * ((X a - X 0) * (Y b - Y 0) - (Y a - Y 0) * (X b - X 0)) = Int32.ofInt (hv_T (hi_P X Y Z 0) (hi_P X Y Z h) (hi_P X Y Z a) (hi_P X Y Z b)) := by
  simp only [hv_T, gv_d, gv_x, gv_s, hi_P, Int32.ofInt_sub, Int32.ofInt_add, Int32.ofInt_mul, Int32.ofInt_toInt]
theorem wv_in {n : Nat} (R : hi_rg X Y Z n) {h a b : Nat} (hh : h < n) (ha : a < n) (hb : b < n) : -10368000 ≤ hv_T (hi_P X Y Z 0) (hi_P X Y Z h) (hi_P X Y Z a) (hi_P X Y Z b) ∧ hv_T (hi_P X Y Z 0) (hi_P X Y Z h) (hi_P X Y Z a) (hi_P X Y Z b) ≤ 10368000 := by
  have r0 := R 0 (by omega)
  unfold hv_T
  rw [gv_comm]
  exact hi_in_d (hi_in_x (hi_in_s (R a ha) r0) (hi_in_s (R b hb) r0)) (hi_in_s (R h hh) r0)
theorem wv_abs {P : Int32 → Prop} {t : Int} (h1 : -10368000 ≤ t) (h2 : t ≤ 10368000) (h : P (Int32.ofInt (hv_abs t))) : (0 ≤ Int32.ofInt t → P (Int32.ofInt t)) ∧ (¬ 0 ≤ Int32.ofInt t → P (- Int32.ofInt t)) := by
  have k := hi_neg (h := t) (by omega) (by omega)
  by_cases e : t < 0
  · refine br_f (Int32.not_le.mpr (k.mpr e)) ?_
    rw [Int32.neg_ofInt, ← hv_abs_p (by omega)]
    exact h
  · refine br_t (Int32.not_lt.mp fun l => e (k.mp l)) ?_
    rw [hv_abs_n (by omega)] at h
    exact h
theorem wx_six {post : Int32 → Prop} (hn : n ≤ 14) (R : hi_rg X Y Z n) {h a b : Nat} (hh : h < n) (ha : a < n) (hb : b < n) (hp : post (Int32.ofInt (hv_abs (hv_T (hi_P X Y Z 0) (hi_P X Y Z h) (hi_P X Y Z a) (hi_P X Y Z b))))) : wpX_sixTetrahedron post (rm, nI n, nI F, X, Y, Z, A, B, C, D, M) (nI h) (nI a) (nI b) := by
  have vh : vp_in (nI h) 14 := vp_in_nI (by omega) (by omega)
  have va : vp_in (nI a) 14 := vp_in_nI (by omega) (by omega)
  have vb : vp_in (nI b) 14 := vp_in_nI (by omega) (by omega)
  have lh : (nI h).toNatClampNeg = h := nI_clamp (by omega)
  have la : (nI a).toNatClampNeg = a := nI_clamp (by omega)
  have lb : (nI b).toNatClampNeg = b := nI_clamp (by omega)
  unfold wpX_sixTetrahedron
  dsimp only
  rw [lh, la, lb]
  have k := wv_in R hh ha hb
  exact ⟨vh, nm_e ⟨vh, nm_e ⟨vh, nm_e ⟨va, nm_e ⟨va, nm_e ⟨va, nm_e ⟨vb, nm_e ⟨vb, nm_e ⟨vb, nm_e (nm_r (wv_det X Y Z h a b) (wv_abs k.1 k.2 hp))⟩⟩⟩⟩⟩⟩⟩⟩⟩
theorem wy_six {post : Int32 → Prop} (hn : n ≤ 14) (R : hi_rg X Y Z n) {h a b : Nat} (hh : h < n) (ha : a < n) (hb : b < n) (hp : post (Int32.ofInt (hv_abs (hv_T (hi_P X Y Z 0) (hi_P X Y Z h) (hi_P X Y Z a) (hi_P X Y Z b))))) : wpY_sixth post (rm, nI n, so, nI F, X, Y, Z, A, B, C, D, M) (nI h) (nI a) (nI b) := by
  have vh : vp_in (nI h) 14 := vp_in_nI (by omega) (by omega)
  have va : vp_in (nI a) 14 := vp_in_nI (by omega) (by omega)
  have vb : vp_in (nI b) 14 := vp_in_nI (by omega) (by omega)
  have lh : (nI h).toNatClampNeg = h := nI_clamp (by omega)
  have la : (nI a).toNatClampNeg = a := nI_clamp (by omega)
  have lb : (nI b).toNatClampNeg = b := nI_clamp (by omega)
  unfold wpY_sixth
  dsimp only
  rw [lh, la, lb]
  have k := wv_in R hh ha hb
  exact ⟨vh, nm_e ⟨vh, nm_e ⟨vh, nm_e ⟨va, nm_e ⟨va, nm_e ⟨va, nm_e ⟨vb, nm_e ⟨vb, nm_e ⟨vb, nm_e (nm_r (wv_det X Y Z h a b) (wv_abs k.1 k.2 hp))⟩⟩⟩⟩⟩⟩⟩⟩⟩
theorem wv_plus (s u t : Int) : Int32.ofInt (s + u) + Int32.ofInt t = Int32.ofInt (s + (u + t)) := by
  rw [← Int32.ofInt_add, Int.add_assoc]
theorem wv_t0 {P : Nat → gv_V} {F : Nat} {B : Nat → Nat → Bool} {f h a b : Nat} (s : Int) (g : Nat → Int) (e : ¬ (a < b ∧ B f a = true ∧ B f b = true ∧ he_e F B a b = true)) : s + (hs_i g b + hv_t P F B f h a b) = s + hs_i g b := by
  have : hv_t P F B f h a b = 0 := if_neg e
  rw [this]; omega
theorem wx_u26 {post : Int32 → Prop} {J : Int32 → Int32 → Prop} (hn : n ≤ 14) (R : hi_rg X Y Z n) (hF : F ≤ 24) {f h a : Nat} (hf : f < F) (hh : h < n) (ha : a < n) (s : Int) (hJ : J (Int32.ofInt (s + hs_i (fun b => hv_t (hi_P X Y Z) F (hi_B M) f h a b) n)) (nI (a + 1))) :
    ∀ d b, b + d = n → a < b → wX_sixVolumeUnder_26 post J (nI f) (nI h) (nI a) rm (nI n) (nI F) X Y Z A B C D M (d + 1) (Int32.ofInt (s + hs_i (fun b => hv_t (hi_P X Y Z) F (hi_B M) f h a b) b)) (nI b) := by
  intro d
  induction d with
  | zero =>
    intro b hb hab
    have e : b = n := by omega
    rw [e]
    exact br_t (nI_le (Nat.le_refl n) (by omega)) (nm_r (nI_1 _) hJ)
  | succ d ih =>
    intro b hb hab
    have hb' : ¬ nI n ≤ nI b := nI_ge (by omega) (by omega)
    have i1 := ih (b + 1) (by omega) (by omega)
    simp only [hs_i] at i1
    by_cases ea : hi_B M f a = true
    · by_cases eb : hi_B M f b = true
      · by_cases ee : he_e F (hi_B M) a b = true
        · have t : hv_t (hi_P X Y Z) F (hi_B M) f h a b = hv_abs (hv_T (hi_P X Y Z 0) (hi_P X Y Z h) (hi_P X Y Z a) (hi_P X Y Z b)) := if_pos ⟨hab, ea, eb, ee⟩
          rw [t] at i1
          exact br_f hb' (wx_in1 (by omega) (by omega) ea (br_f (by decide) (wx_in1 (by omega) (by omega) eb (br_f (by decide) (wx_edg1 (by omega) (by omega) hF ee (br_f (by decide) (wx_six hn R hh ha (by omega) (nm_r (wv_plus _ _ _) (nm_r (nI_1 _) i1)))))))))
        · rw [wv_t0 _ _ (fun k => ee k.2.2.2)] at i1
          exact br_f hb' (wx_in1 (by omega) (by omega) ea (br_f (by decide) (wx_in1 (by omega) (by omega) eb (br_f (by decide) (wx_edg0 (by omega) (by omega) hF ee (br_t rfl (nm_r (nI_1 _) i1)))))))
      · rw [wv_t0 _ _ (fun k => eb k.2.2.1)] at i1
        exact br_f hb' (wx_in1 (by omega) (by omega) ea (br_f (by decide) (wx_in0 (by omega) (by omega) eb (br_t rfl (nm_r (nI_1 _) i1)))))
    · rw [wv_t0 _ _ (fun k => ea k.2.1)] at i1
      exact br_f hb' (wx_in0 (by omega) (by omega) ea (br_t rfl (nm_r (nI_1 _) i1)))
theorem wv_low {P : Nat → gv_V} {F : Nat} {B : Nat → Nat → Bool} {f h a : Nat} : hs_i (fun b => hv_t P F B f h a b) (a + 1) = 0 :=
  hs_i_zero _ fun i hi => if_neg fun k => absurd k.1 (by omega)
theorem wx_u11 {post : Int32 → Prop} (hn : n ≤ 14) (R : hi_rg X Y Z n) (hF : F ≤ 24) {f h : Nat} (hf : f < F) (hh : h < n) (hp : post (Int32.ofInt (hv_S n (hi_P X Y Z) F (hi_B M) f h))) :
    ∀ d a, a + d = n → wX_sixVolumeUnder_11 post (nI f) (nI h) rm (nI n) (nI F) X Y Z A B C D M (d + 1) (Int32.ofInt (hs_i (fun a => hs_i (fun b => hv_t (hi_P X Y Z) F (hi_B M) f h a b) n) a)) (nI a) := by
  intro d
  induction d with
  | zero =>
    intro a ha
    have e : a = n := by omega
    rw [e]
    exact br_t (nI_le (Nat.le_refl n) (by omega)) hp
  | succ d ih =>
    intro a ha
    have ha' : ¬ nI n ≤ nI a := nI_ge (by omega) (by omega)
    have i1 := ih (a + 1) (by omega)
    simp only [hs_i] at i1
    have g := wx_u26 (post := post) (rm := rm) (A := A) (B := B) (C := C) (D := D) (J := wX_sixVolumeUnder_11 post (nI f) (nI h) rm (nI n) (nI F) X Y Z A B C D M (d + 1)) hn R hF hf hh (show a < n by omega) (hs_i (fun a => hs_i (fun b => hv_t (hi_P X Y Z) F (hi_B M) f h a b) n) a) i1 (n - (a + 1)) (a + 1) (by omega) (by omega)
    rw [wv_low, Int.add_zero] at g
    exact br_f ha' (nm_r (nI_1 _) ⟨_, g⟩)
theorem wx_least (hn : n ≤ 14) {f : Nat} (hf : f < 24) : ∀ d j, j + d = n → (∃ p, j ≤ p ∧ p < n ∧ hi_B M f p = true) → ∃ h, h < n ∧ hi_B M f h = true ∧ ∀ post : Int32 → Prop, post (nI h) → wX_leastPointIn_2 post (nI f) rm (nI n) (nI F) X Y Z A B C D M (d + 1) (nI j) := by
  intro d
  induction d with
  | zero => intro j hj ⟨p, h1, h2, _⟩; exact absurd h1 (by omega)
  | succ d ih =>
    intro j hj ⟨p, h1, h2, h3⟩
    have hj' : ¬ nI n ≤ nI j := nI_ge (by omega) (by omega)
    by_cases e : hi_B M f j = true
    · exact ⟨j, by omega, e, fun post h => br_f hj' (wx_in1 hf (by omega) e (br_f (by decide) h))⟩
    · obtain ⟨h, hh, eh, g⟩ := ih (j + 1) (by omega) ⟨p, by
        by_cases e2 : p = j
        · rw [e2] at h3; exact absurd h3 e
        · omega, h2, h3⟩
      exact ⟨h, hh, eh, fun post k => br_f hj' (wx_in0 hf (by omega) e (br_t rfl (nm_r (nI_1 _) (g post k))))⟩
theorem wx_under (hn : n ≤ 14) (R : hi_rg X Y Z n) (hF : F ≤ 24) {f : Nat} (hf : f < F) (hp : ∃ p, p < n ∧ hi_B M f p = true) : ∃ h, h < n ∧ hi_B M f h = true ∧ ∀ post : Int32 → Prop, post (Int32.ofInt (hv_S n (hi_P X Y Z) F (hi_B M) f h)) → wpX_sixVolumeUnder post (rm, nI n, nI F, X, Y, Z, A, B, C, D, M) (nI f) := by
  obtain ⟨p, hp, ep⟩ := hp
  obtain ⟨h, hh, eh, g⟩ := wx_least (rm := rm) (F := F) (X := X) (Y := Y) (Z := Z) (A := A) (B := B) (C := C) (D := D) hn (show f < 24 by omega) n 0 (by omega) ⟨p, Nat.zero_le _, hp, ep⟩
  exact ⟨h, hh, eh, fun post k => ⟨_, g _ ⟨n + 1, wx_u11 hn R hF hf hh k n 0 (by omega)⟩⟩⟩
theorem wy_c110 {post : Int32 → Prop} {J J2 : Int32 → Int32 → Prop} (hn : n ≤ 14) (R : hi_rg X Y Z n) (hF : F ≤ 24) {f h a b : Nat} {s : Int32} (hh : h < n) (ha : a < n) (hb : b < n) (h1 : he_e F (hi_B M) a b = true → J2 (s + Int32.ofInt (hv_abs (hv_T (hi_P X Y Z 0) (hi_P X Y Z h) (hi_P X Y Z a) (hi_P X Y Z b)))) (nI (b + 1))) (h0 : ¬ he_e F (hi_B M) a b = true → J2 s (nI (b + 1))) :
    wY_cone_110 post J J2 (nI f) (nI h) s (nI a) (nI b) 1 rm (nI n) so (nI F) X Y Z A B C D M := by
  refine br_f (nI_pos (by omega)) (br_f (by decide) ?_)
  by_cases ee : he_e F (hi_B M) a b = true
  · exact wy_edg1 (by omega) (by omega) hF ee (br_f (by decide) (wy_six hn R hh ha hb (nm_e (nm_r (nI_1 _) (h1 ee)))))
  · exact wy_edg0 (by omega) (by omega) hF ee (br_t rfl (nm_r (nI_1 _) (h0 ee)))
theorem wy_c66 {post : Int32 → Prop} {J : Int32 → Int32 → Prop} (hn : n ≤ 14) (R : hi_rg X Y Z n) (hF : F ≤ 24) {f h a : Nat} (hf : f < F) (hh : h < n) (ha : a < n) (s : Int) (hJ : J (Int32.ofInt (s + hs_i (fun b => hv_t (hi_P X Y Z) F (hi_B M) f h a b) n)) (nI (a + 1))) :
    ∀ d b, b + d = n → a < b → wY_cone_66 post J (nI f) (nI h) (nI a) rm (nI n) so (nI F) X Y Z A B C D M (d + 1) (Int32.ofInt (s + hs_i (fun b => hv_t (hi_P X Y Z) F (hi_B M) f h a b) b)) (nI b) := by
  intro d
  induction d with
  | zero =>
    intro b hb hab
    have e : b = n := by omega
    rw [e]
    exact br_t (nI_le (Nat.le_refl n) (by omega)) (nm_r (nI_1 _) hJ)
  | succ d ih =>
    intro b hb hab
    have hb' : ¬ nI n ≤ nI b := nI_ge (by omega) (by omega)
    have vf : vp_in (nI f) 364 := vp_in_nI (by omega) (by omega)
    have ba := wy_bit (M := M) (f := f) (p := a) (by omega) (by omega)
    have bb := wy_bit (M := M) (f := f) (p := b) (by omega) (by omega)
    have i1 := ih (b + 1) (by omega) (by omega)
    simp only [hs_i] at i1
    have nh : ¬ nI h < 0 := nI_pos (by omega)
    by_cases ea : hi_B M f a = true
    · by_cases eb : hi_B M f b = true
      · refine br_f hb' ⟨vf, br_t (ba.mpr ea) ⟨vf, br_t (bb.mpr eb) (wy_c110 hn R hF hh ha (by omega) (fun ee => ?_) (fun ee => ?_))⟩⟩
        · have t : hv_t (hi_P X Y Z) F (hi_B M) f h a b = hv_abs (hv_T (hi_P X Y Z 0) (hi_P X Y Z h) (hi_P X Y Z a) (hi_P X Y Z b)) := if_pos ⟨hab, ea, eb, ee⟩
          rw [t] at i1
          rw [wv_plus]
          exact i1
        · rw [wv_t0 _ _ (fun k => ee k.2.2.2)] at i1
          exact i1
      · rw [wv_t0 _ _ (fun k => eb k.2.2.1)] at i1
        exact br_f hb' ⟨vf, br_t (ba.mpr ea) ⟨vf, br_f (fun k => eb (bb.mp k)) (br_f nh (br_t rfl (nm_r (nI_1 _) i1)))⟩⟩
    · rw [wv_t0 _ _ (fun k => ea k.2.1)] at i1
      exact br_f hb' ⟨vf, br_f (fun k => ea (ba.mp k)) (br_f nh (br_t rfl (nm_r (nI_1 _) i1)))⟩
theorem wy_c51 {post : Int32 → Prop} (hn : n ≤ 14) (R : hi_rg X Y Z n) (hF : F ≤ 24) {f h : Nat} (hf : f < F) (hh : h < n) (hp : post (Int32.ofInt (hv_S n (hi_P X Y Z) F (hi_B M) f h))) :
    ∀ d a, a + d = n → wY_cone_51 post (nI f) (nI h) rm (nI n) so (nI F) X Y Z A B C D M (d + 1) (Int32.ofInt (hs_i (fun a => hs_i (fun b => hv_t (hi_P X Y Z) F (hi_B M) f h a b) n) a)) (nI a) := by
  intro d
  induction d with
  | zero =>
    intro a ha
    have e : a = n := by omega
    rw [e]
    exact br_t (nI_le (Nat.le_refl n) (by omega)) hp
  | succ d ih =>
    intro a ha
    have ha' : ¬ nI n ≤ nI a := nI_ge (by omega) (by omega)
    have i1 := ih (a + 1) (by omega)
    simp only [hs_i] at i1
    have g := wy_c66 (post := post) (rm := rm) (so := so) (A := A) (B := B) (C := C) (D := D) (J := wY_cone_51 post (nI f) (nI h) rm (nI n) so (nI F) X Y Z A B C D M (d + 1)) hn R hF hf hh (show a < n by omega) (hs_i (fun a => hs_i (fun b => hv_t (hi_P X Y Z) F (hi_B M) f h a b) n) a) i1 (n - (a + 1)) (a + 1) (by omega) (by omega)
    rw [wv_low, Int.add_zero] at g
    exact br_f ha' (nm_r (nI_1 _) ⟨_, g⟩)
theorem wy_n66 {post : Int32 → Prop} {J : Int32 → Int32 → Prop} (hn : n ≤ 14) (hF : F ≤ 24) {f a : Nat} (hf : f < F) (ha : a < n) (s : Int32) (hJ : J s (nI (a + 1))) :
    ∀ d b, b + d = n → wY_cone_66 post J (nI f) (-1) (nI a) rm (nI n) so (nI F) X Y Z A B C D M (d + 1) s (nI b) := by
  intro d
  induction d with
  | zero =>
    intro b hb
    exact br_t (nI_le (by omega) (by omega)) (nm_r (nI_1 _) hJ)
  | succ d ih =>
    intro b hb
    have hb' : ¬ nI n ≤ nI b := nI_ge (by omega) (by omega)
    have vf : vp_in (nI f) 364 := vp_in_nI (by omega) (by omega)
    have ba := wy_bit (M := M) (f := f) (p := a) (by omega) (by omega)
    have bb := wy_bit (M := M) (f := f) (p := b) (by omega) (by omega)
    have i1 := ih (b + 1) (by omega)
    by_cases ea : hi_B M f a = true
    · by_cases eb : hi_B M f b = true
      · exact br_f hb' ⟨vf, br_t (ba.mpr ea) ⟨vf, br_t (bb.mpr eb) (br_t (by decide) (nm_r (nI_1 _) i1))⟩⟩
      · exact br_f hb' ⟨vf, br_t (ba.mpr ea) ⟨vf, br_f (fun k => eb (bb.mp k)) (br_t (by decide) (nm_r (nI_1 _) i1))⟩⟩
    · exact br_f hb' ⟨vf, br_f (fun k => ea (ba.mp k)) (br_t (by decide) (nm_r (nI_1 _) i1))⟩
theorem wy_n51 {post : Int32 → Prop} (hn : n ≤ 14) (hF : F ≤ 24) {f : Nat} (hf : f < F) (s : Int32) (hp : post s) : ∀ d a, a + d = n → wY_cone_51 post (nI f) (-1) rm (nI n) so (nI F) X Y Z A B C D M (d + 1) s (nI a) := by
  intro d
  induction d with
  | zero =>
    intro a ha
    exact br_t (nI_le (by omega) (by omega)) hp
  | succ d ih =>
    intro a ha
    have ha' : ¬ nI n ≤ nI a := nI_ge (by omega) (by omega)
    exact br_f ha' (nm_r (nI_1 _) ⟨_, wy_n66 hn hF hf (show a < n by omega) s (ih (a + 1) (by omega)) (n - (a + 1)) (a + 1) (by omega)⟩)
theorem wy_c4 (hn : n ≤ 14) (hF : F ≤ 24) {f : Nat} (hf : f < F) : ∀ d j, j + d = n →
    (∃ h, h < n ∧ hi_B M f h = true ∧ ∀ post : Int32 → Prop, (∃ m, wY_cone_51 post (nI f) (nI h) rm (nI n) so (nI F) X Y Z A B C D M m 0 0) → wY_cone_4 post (nI f) rm (nI n) so (nI F) X Y Z A B C D M (d + 2) (-1) (nI j)) ∨
    ((∀ p, j ≤ p → p < n → hi_B M f p = true → ¬ 3 ≤ he_w F (hi_B M) p p) ∧ ∀ post : Int32 → Prop, (∃ m, wY_cone_51 post (nI f) (-1) rm (nI n) so (nI F) X Y Z A B C D M m 0 0) → wY_cone_4 post (nI f) rm (nI n) so (nI F) X Y Z A B C D M (d + 2) (-1) (nI j)) := by
  intro d
  induction d with
  | zero =>
    intro j hj
    exact Or.inr ⟨fun p h1 h2 => absurd h1 (by omega), fun post h => br_t (nI_le (by omega) (by omega)) h⟩
  | succ d ih =>
    intro j hj
    have hj' : ¬ nI n ≤ nI j := nI_ge (by omega) (by omega)
    have vf : vp_in (nI f) 364 := vp_in_nI (by omega) (by omega)
    have bj := wy_bit (M := M) (f := f) (p := j) (by omega) (by omega)
    have i1 := ih (j + 1) (by omega)
    have m1 : ¬ (0 : Int32) ≤ -1 := by decide
    by_cases e : hi_B M f j = true
    · by_cases c : 3 ≤ he_w F (hi_B M) j j
      · refine Or.inl ⟨j, by omega, e, fun post h => ?_⟩
        refine br_f hj' (br_f m1 ⟨vf, br_t (bj.mpr e) (wy_cor1 (by omega) hF c (br_f (by decide) (nm_r (nI_1 _) ?_)))⟩)
        by_cases hl : nI n ≤ nI (j + 1)
        · exact br_t hl h
        · exact br_f hl (br_t (nI_pos' (by omega)) h)
      · rcases i1 with ⟨h, hh, eh, g⟩ | ⟨nc, g⟩
        · exact Or.inl ⟨h, hh, eh, fun post k => br_f hj' (br_f m1 ⟨vf, br_t (bj.mpr e) (wy_cor0 (by omega) hF c (br_t rfl (nm_r (nI_1 _) (g post k))))⟩)⟩
        · refine Or.inr ⟨fun p h1 h2 h3 => ?_, fun post k => br_f hj' (br_f m1 ⟨vf, br_t (bj.mpr e) (wy_cor0 (by omega) hF c (br_t rfl (nm_r (nI_1 _) (g post k))))⟩)⟩
          by_cases e2 : p = j
          · rw [e2]; exact c
          · exact nc p (by omega) h2 h3
    · rcases i1 with ⟨h, hh, eh, g⟩ | ⟨nc, g⟩
      · exact Or.inl ⟨h, hh, eh, fun post k => br_f hj' (br_f m1 ⟨vf, br_f (fun q => e (bj.mp q)) (nm_r (nI_1 _) (g post k))⟩)⟩
      · refine Or.inr ⟨fun p h1 h2 h3 => ?_, fun post k => br_f hj' (br_f m1 ⟨vf, br_f (fun q => e (bj.mp q)) (nm_r (nI_1 _) (g post k))⟩)⟩
        by_cases e2 : p = j
        · rw [e2] at h3; exact absurd h3 e
        · exact nc p (by omega) h2 h3
theorem wv_none {P : Nat → gv_V} {B : Nat → Nat → Bool} {f h : Nat} (nc : ∀ p, p < n → B f p = true → ¬ 3 ≤ he_w F B p p) : hv_S n P F B f h = 0 :=
  hs_i_zero n fun a ha => hs_i_zero n fun b hb => if_neg fun k => nc a ha k.2.1 (of_decide_eq_true k.2.2.2).2.1
theorem wq_cone (hn : n ≤ 14) (R : hi_rg X Y Z n) (hF : F ≤ 24) {N : Nat → gv_V} {L : Nat → Int} (H : hf_FL n (hi_P X Y Z) F N L (hi_B M)) (CP : hf_CP n (hi_P X Y Z) F (hi_B M)) (dist : ∀ i j, i < n → j < n → i ≠ j → hi_P X Y Z i ≠ hi_P X Y Z j) {f : Nat} (hf : f < F) :
    ∃ r : Int32, (∀ post : Int32 → Prop, post r → wpX_sixVolumeUnder post (rm, nI n, nI F, X, Y, Z, A, B, C, D, M) (nI f)) ∧ (∀ post : Int32 → Prop, post r → wpY_cone post (rm, nI n, so, nI F, X, Y, Z, A, B, C, D, M) (nI f)) := by
  obtain ⟨p, _, _, hp, _, _, ep, _⟩ := H.2.2.1 f hf
  obtain ⟨h, hh, eh, gX⟩ := wx_under (rm := rm) (A := A) (B := B) (C := C) (D := D) hn R hF hf ⟨p, hp, ep⟩
  refine ⟨_, gX, fun post k => ⟨n + 2, ?_⟩⟩
  rcases wy_c4 (rm := rm) (so := so) (X := X) (Y := Y) (Z := Z) (A := A) (B := B) (C := C) (D := D) (M := M) hn hF hf n 0 (by omega) with ⟨h2, hh2, eh2, g⟩ | ⟨nc, g⟩
  · refine g post ⟨n + 1, wy_c51 hn R hF hf hh2 ?_ n 0 (by omega)⟩
    rw [hv_vol H CP dist hf hh2 hh eh2 eh]
    exact k
  · have z : hv_S n (hi_P X Y Z) F (hi_B M) f h = 0 := wv_none fun p h2 h3 => nc p (Nat.zero_le _) h2 h3
    rw [z] at k
    exact g post ⟨n + 1, wy_n51 hn hF hf 0 k n 0 (by omega)⟩
theorem wq_vol (hn : n ≤ 14) (R : hi_rg X Y Z n) (hF : F ≤ 24) {N : Nat → gv_V} {L : Nat → Int} (H : hf_FL n (hi_P X Y Z) F N L (hi_B M)) (CP : hf_CP n (hi_P X Y Z) F (hi_B M)) (dist : ∀ i j, i < n → j < n → i ≠ j → hi_P X Y Z i ≠ hi_P X Y Z j) :
    ∀ d j, j + d = F → ∀ c : Int32, ∃ r : Int32, (∀ post : Int32 → Prop, post r → wX_sixVolume_14 post rm (nI n) (nI F) X Y Z A B C D M (d + 1) c (nI j)) ∧ (∀ post : Int32 → Prop, post r → wY_sixVolume_14 post rm (nI n) so (nI F) X Y Z A B C D M (d + 1) c (nI j)) := by
  intro d
  induction d with
  | zero =>
    intro j hj c
    have hl : nI F ≤ nI j := nI_le (by omega) (by omega)
    exact ⟨c, fun post h => br_t hl h, fun post h => br_t hl h⟩
  | succ d ih =>
    intro j hj c
    have hj' : ¬ nI F ≤ nI j := nI_ge (by omega) (by omega)
    obtain ⟨q, qX, qY⟩ := wq_cone (rm := rm) (so := so) (A := A) (B := B) (C := C) (D := D) hn R hF H CP dist (f := j) (by omega)
    obtain ⟨r, hX, hY⟩ := ih (j + 1) (by omega) (c + q)
    exact ⟨r, fun post h => br_f hj' (qX _ (nm_e (nm_r (nI_1 _) (hX post h)))), fun post h => br_f hj' (qY _ (nm_e (nm_r (nI_1 _) (hY post h))))⟩
end
section
/-! a point that is held already, both sides; a new point -/
variable {rm so : Int32} {n F : Nat} {X Y Z A B C D M : Nat → Int32}
theorem wx_hd1 {post : Int32 → Prop} (hn : n ≤ 14) {x y z : Int32} (h : post 1) : ∀ d j, j + d = n → (∃ p, j ≤ p ∧ p < n ∧ X p = x ∧ Y p = y ∧ Z p = z) → wX_holds_3 post x y z rm (nI n) (nI F) X Y Z A B C D M (d + 1) (nI j) := by
  intro d
  induction d with
  | zero => intro j hj ⟨p, h1, h2, _⟩; exact absurd h1 (by omega)
  | succ d ih =>
    intro j hj ⟨p, h1, h2, h3, h4, h5⟩
    have hj' : ¬ nI n ≤ nI j := nI_ge (by omega) (by omega)
    have vi : vp_in (nI j) 14 := vp_in_nI (by omega) (by omega)
    have cl : (nI j).toNatClampNeg = j := nI_clamp (by omega)
    by_cases e : p = j
    · subst e
      exact br_f hj' ⟨vi, br_t (by rw [cl]; exact h3) ⟨vi, br_t (by rw [cl]; exact h4) ⟨vi, br_t (by rw [cl]; exact h5) h⟩⟩⟩
    · have i1 := ih (j + 1) (by omega) ⟨p, by omega, h2, h3, h4, h5⟩
      by_cases ex : X (nI j).toNatClampNeg = x
      · by_cases ey : Y (nI j).toNatClampNeg = y
        · by_cases ez : Z (nI j).toNatClampNeg = z
          · exact br_f hj' ⟨vi, br_t ex ⟨vi, br_t ey ⟨vi, br_t ez h⟩⟩⟩
          · exact br_f hj' ⟨vi, br_t ex ⟨vi, br_t ey ⟨vi, br_f ez (nm_r (nI_1 _) i1)⟩⟩⟩
        · exact br_f hj' ⟨vi, br_t ex ⟨vi, br_f ey (nm_r (nI_1 _) i1)⟩⟩
      · exact br_f hj' ⟨vi, br_f ex (nm_r (nI_1 _) i1)⟩
theorem wx_hd0 {post : Int32 → Prop} (hn : n ≤ 14) {x y z : Int32} (h : post 0) (nk : ∀ p, p < n → ¬ (X p = x ∧ Y p = y ∧ Z p = z)) : ∀ d j, j + d = n → wX_holds_3 post x y z rm (nI n) (nI F) X Y Z A B C D M (d + 1) (nI j) := by
  intro d
  induction d with
  | zero =>
    intro j hj
    exact br_t (nI_le (by omega) (by omega)) h
  | succ d ih =>
    intro j hj
    have hj' : ¬ nI n ≤ nI j := nI_ge (by omega) (by omega)
    have vi : vp_in (nI j) 14 := vp_in_nI (by omega) (by omega)
    have cl : (nI j).toNatClampNeg = j := nI_clamp (by omega)
    have i1 := ih (j + 1) (by omega)
    have nj := nk j (by omega)
    by_cases ex : X (nI j).toNatClampNeg = x
    · by_cases ey : Y (nI j).toNatClampNeg = y
      · by_cases ez : Z (nI j).toNatClampNeg = z
        · rw [cl] at ex ey ez
          exact absurd ⟨ex, ey, ez⟩ nj
        · exact br_f hj' ⟨vi, br_t ex ⟨vi, br_t ey ⟨vi, br_f ez (nm_r (nI_1 _) i1)⟩⟩⟩
      · exact br_f hj' ⟨vi, br_t ex ⟨vi, br_f ey (nm_r (nI_1 _) i1)⟩⟩
    · exact br_f hj' ⟨vi, br_f ex (nm_r (nI_1 _) i1)⟩
theorem wy_hd1 {post : Int32 → SY → Prop} (hn : n ≤ 14) {x y z : Int32} (h : post (-3) (rm, nI n, so, nI F, X, Y, Z, A, B, C, D, M)) : ∀ d j, j + d = n → (∃ p, j ≤ p ∧ p < n ∧ X p = x ∧ Y p = y ∧ Z p = z) → wY_add_46 post x y z rm (nI n) so (nI F) X Y Z A B C D M (d + 1) (nI j) := by
  intro d
  induction d with
  | zero => intro j hj ⟨p, h1, h2, _⟩; exact absurd h1 (by omega)
  | succ d ih =>
    intro j hj ⟨p, h1, h2, h3, h4, h5⟩
    have hj' : ¬ nI n ≤ nI j := nI_ge (by omega) (by omega)
    have vi : vp_in (nI j) 14 := vp_in_nI (by omega) (by omega)
    have cl : (nI j).toNatClampNeg = j := nI_clamp (by omega)
    by_cases e : p = j
    · subst e
      exact br_f hj' ⟨vi, br_t (by rw [cl]; exact h3) ⟨vi, br_t (by rw [cl]; exact h4) ⟨vi, br_t (by rw [cl]; exact h5) h⟩⟩⟩
    · have i1 := ih (j + 1) (by omega) ⟨p, by omega, h2, h3, h4, h5⟩
      by_cases ex : X (nI j).toNatClampNeg = x
      · by_cases ey : Y (nI j).toNatClampNeg = y
        · by_cases ez : Z (nI j).toNatClampNeg = z
          · exact br_f hj' ⟨vi, br_t ex ⟨vi, br_t ey ⟨vi, br_t ez h⟩⟩⟩
          · exact br_f hj' ⟨vi, br_t ex ⟨vi, br_t ey ⟨vi, br_f ez (nm_r (nI_1 _) i1)⟩⟩⟩
        · exact br_f hj' ⟨vi, br_t ex ⟨vi, br_f ey (nm_r (nI_1 _) i1)⟩⟩
      · exact br_f hj' ⟨vi, br_f ex (nm_r (nI_1 _) i1)⟩
theorem wy_hd0 {post : Int32 → SY → Prop} (hn : n < 14) {x y z : Int32} (R : hi_rg (upd X n x) (upd Y n y) (upd Z n z) (n + 1)) (h : post (nI n) (wy_st rm (n + 1) (upd X n x) (upd Y n y) (upd Z n z) (hp_a (upd X n x) (upd Y n y) (upd Z n z) (n + 1) (0, A, B, C, D, M, false)))) (nk : ∀ p, p < n → ¬ (X p = x ∧ Y p = y ∧ Z p = z)) : ∀ d j, j + d = n → wY_add_46 post x y z rm (nI n) so (nI F) X Y Z A B C D M (d + 1) (nI j) := by
  intro d
  induction d with
  | zero =>
    intro j hj
    have vi : vp_in (nI n) 14 := vp_in_nI (by omega) (by omega)
    have cl : (nI n).toNatClampNeg = n := nI_clamp (by omega)
    refine br_t (nI_le (by omega) (by omega)) ⟨vi, ?_⟩
    rw [cl]
    refine nm_e ⟨vi, nm_e ⟨vi, nm_e (nm_r (nI_1 _) (wy_find (by omega) R ?_))⟩⟩
    dsimp only
    rw [nI_pred]
    exact h
  | succ d ih =>
    intro j hj
    have hj' : ¬ nI n ≤ nI j := nI_ge (by omega) (by omega)
    have vi : vp_in (nI j) 14 := vp_in_nI (by omega) (by omega)
    have cl : (nI j).toNatClampNeg = j := nI_clamp (by omega)
    have i1 := ih (j + 1) (by omega)
    have nj := nk j (by omega)
    by_cases ex : X (nI j).toNatClampNeg = x
    · by_cases ey : Y (nI j).toNatClampNeg = y
      · by_cases ez : Z (nI j).toNatClampNeg = z
        · rw [cl] at ex ey ez
          exact absurd ⟨ex, ey, ez⟩ nj
        · exact br_f hj' ⟨vi, br_t ex ⟨vi, br_t ey ⟨vi, br_f ez (nm_r (nI_1 _) i1)⟩⟩⟩
      · exact br_f hj' ⟨vi, br_t ex ⟨vi, br_f ey (nm_r (nI_1 _) i1)⟩⟩
    · exact br_f hj' ⟨vi, br_f ex (nm_r (nI_1 _) i1)⟩
theorem wt_60 {v : Int32} (h : ww_in v 60) : -60 ≤ v.toInt ∧ v.toInt ≤ 60 := by
  obtain ⟨h1, h2⟩ := h
  rw [Int32.lt_iff_toInt_lt] at h1 h2
  have e1 : (-(60 : Int32)).toInt = -60 := by decide
  have e2 : (60 : Int32).toInt = 60 := by decide
  rw [e1] at h1
  rw [e2] at h2
  omega
theorem wt_Pn (X Y Z : Nat → Int32) (n : Nat) (x y z : Int32) : hi_P (upd X n x) (upd Y n y) (upd Z n z) n = (x.toInt, y.toInt, z.toInt) := by
  simp only [hi_P, pk_us]
theorem wt_Po (X Y Z : Nat → Int32) {n i : Nat} (x y z : Int32) (h : i ≠ n) : hi_P (upd X n x) (upd Y n y) (upd Z n z) i = hi_P X Y Z i := by
  simp only [hi_P, pk_un h]
theorem wt_R {x y z : Int32} (R : hi_rg X Y Z n) (hx : ww_in x 60) (hy : ww_in y 60) (hz : ww_in z 60) : hi_rg (upd X n x) (upd Y n y) (upd Z n z) (n + 1) := by
  intro i hi
  by_cases e : i = n
  · rw [e, wt_Pn]
    have a := wt_60 hx
    have b := wt_60 hy
    have c := wt_60 hz
    exact ⟨a.1, a.2, b.1, b.2, c.1, c.2⟩
  · rw [wt_Po X Y Z x y z e]
    exact R i (by omega)
theorem wt_D {x y z : Int32} (ds : ∀ i j, i < n → j < n → i ≠ j → hi_P X Y Z i ≠ hi_P X Y Z j) (nk : ∀ p, p < n → ¬ (X p = x ∧ Y p = y ∧ Z p = z)) : ∀ i j, i < n + 1 → j < n + 1 → i ≠ j → hi_P (upd X n x) (upd Y n y) (upd Z n z) i ≠ hi_P (upd X n x) (upd Y n y) (upd Z n z) j := by
  have key : ∀ p, p < n → hi_P X Y Z p ≠ (x.toInt, y.toInt, z.toInt) := by
    intro p hp e
    have e1 := congrArg Prod.fst e
    have e2 := congrArg (fun q => q.2.1) e
    have e3 := congrArg (fun q => q.2.2) e
    exact nk p hp ⟨Int32.toInt_inj.mp e1, Int32.toInt_inj.mp e2, Int32.toInt_inj.mp e3⟩
  intro i j hi hj hij
  by_cases ei : i = n
  · have ej : j ≠ n := by omega
    rw [ei, wt_Pn, wt_Po X Y Z x y z ej]
    exact Ne.symm (key j (by omega))
  · by_cases ej : j = n
    · rw [ej, wt_Pn, wt_Po X Y Z x y z ei]
      exact key i (by omega)
    · rw [wt_Po X Y Z x y z ei, wt_Po X Y Z x y z ej]
      exact ds i j (by omega) (by omega) hij
end
section
/-! the relation, and what is owed -/
def i_Rel (k : Nat) (u : SX) (v : SY) : Prop :=
  ∃ (r n : Nat) (X Y Z : Nat → Int32) (S : hp_T), 4 ≤ r ∧ r ≤ 14 ∧ n ≤ r ∧ hi_rg X Y Z n ∧ (∀ i j, i < n → j < n → i ≠ j → hi_P X Y Z i ≠ hi_P X Y Z j) ∧ hi_I (hi_P X Y Z) n S ∧ hf_CP n (hi_P X Y Z) S.1 (hi_B S.2.2.2.2.2.1) ∧ S.1 ≤ 24 ∧ (S.2.2.2.2.2.2 = true ↔ 0 < S.1) ∧ u = wx_st (nI r) n X Y Z S ∧ v = wy_st (nI r) n X Y Z S
theorem i_up {k : Nat} {u : SX} {v : SY} (h : i_Rel k u v) : i_Rel (k + 4) u v := h
theorem ir_new (k : Nat) {r n : Nat} {X Y Z : Nat → Int32} (h4 : 4 ≤ r) (h14 : r ≤ 14) (hn : n ≤ r) (R : hi_rg X Y Z n) (ds : ∀ i j, i < n → j < n → i ≠ j → hi_P X Y Z i ≠ hi_P X Y Z j) (a b c d e : Nat → Int32) :
    i_Rel k (wx_st (nI r) n X Y Z (hp_a X Y Z n (0, a, b, c, d, e, false))) (wy_st (nI r) n X Y Z (hp_a X Y Z n (0, a, b, c, d, e, false))) := by
  obtain ⟨h1, h2, h3, h5⟩ := hl_all (show n ≤ 14 by omega) R a b c d e
  exact ⟨r, n, X, Y, Z, _, h4, h14, hn, R, ds, h1, h2, h3, h5, rfl, rfl⟩
theorem ir_0 {r : Nat} (h4 : 4 ≤ r) (h14 : r ≤ 14) : i_Rel 1 (nI r, 0, 0, (fun _ => 0), (fun _ => 0), (fun _ => 0), (fun _ => 0), (fun _ => 0), (fun _ => 0), (fun _ => 0), (fun _ => 0)) (nI r, 0, 0, 0, (fun _ => 0), (fun _ => 0), (fun _ => 0), (fun _ => 0), (fun _ => 0), (fun _ => 0), (fun _ => 0), (fun _ => 0)) :=
  ir_new 1 (n := 0) h4 h14 (by omega) (fun i hi => absurd hi (Nat.not_lt_zero _)) (fun i j hi => absurd hi (Nat.not_lt_zero _)) (fun _ => 0) (fun _ => 0) (fun _ => 0) (fun _ => 0) (fun _ => 0)
theorem i_vc0 (k0 : Int32) : wpX_init (fun u => wpY_init (fun v => i_Rel 1 u v) k0) k0 := by
  by_cases h4 : 4 ≤ k0
  · by_cases h14 : k0 ≤ 14
    · have hp : ¬ k0 < 0 := fun l => absurd (Int32.lt_of_le_of_lt h4 l) (by decide)
      obtain ⟨j, hj, rfl⟩ := nI_of2 (M := 14) (n := 14) (by decide) hp h14
      have h4' : 4 ≤ j := (nI_leI (a := 4) (by omega) (by omega)).mp h4
      exact br_t h4 (br_t h14 (br_t h4 (br_t h14 (ir_0 h4' hj))))
    · exact br_t h4 (br_f h14 (br_t h4 (br_f h14 (ir_0 (r := 14) (by omega) (by omega)))))
  · exact br_f h4 (br_f h4 (ir_0 (r := 4) (by omega) (by omega)))
theorem i_vc_add {k : Nat} {u : SX} {v : SY} (I : i_Rel k u v) (hk : k + 4 ≤ 2049) (v1 : Int32) (v2 : Int32) (v3 : Int32) : wpX_add (fun r u' => wpY_add (fun r' v' => r' = r ∧ i_Rel (k + 4) u' v') v v1 v2 v3) u v1 v2 v3 := by
  have I0 := I
  obtain ⟨r, n, X, Y, Z, S, h4, h14, hn, R, ds, II, CP, cap, sol, rfl, rfl⟩ := I
  unfold wpX_add wpY_add
  dsimp only
  by_cases win : ww_in v1 60 ∧ ww_in v2 60 ∧ ww_in v3 60
  · by_cases full : n < r
    · have l1 : nI n < nI r := nI_lt full (by omega)
      have l2 : ¬ nI n = nI r := fun e => by have := (nI_eq (by omega) (by omega)).mp e; omega
      by_cases kn : ∃ p, 0 ≤ p ∧ p < n ∧ X p = v1 ∧ Y p = v2 ∧ Z p = v3
      · exact wx_wi1 win.1 win.2.1 win.2.2 (br_f (by decide) (br_t l1 ⟨n + 1, wx_hd1 (by omega) (br_f (by decide) (wy_w3a win.1 win.2.1 win.2.2 (br_f l2 ⟨n + 1, wy_hd1 (by omega) ⟨rfl, I0⟩ n 0 (by omega) kn⟩))) n 0 (by omega) kn⟩))
      · have nk : ∀ p, p < n → ¬ (X p = v1 ∧ Y p = v2 ∧ Z p = v3) := fun p hp e => kn ⟨p, Nat.zero_le _, hp, e⟩
        have R' := wt_R R win.1 win.2.1 win.2.2
        have D' := wt_D ds nk
        have vi : vp_in (nI n) 14 := vp_in_nI (by omega) (by omega)
        have cl : (nI n).toNatClampNeg = n := nI_clamp (by omega)
        have fin := ir_new (k + 4) h4 h14 (show n + 1 ≤ r by omega) R' D' S.2.1 S.2.2.1 S.2.2.2.1 S.2.2.2.2.1 S.2.2.2.2.2.1
        refine wx_wi1 win.1 win.2.1 win.2.2 (br_f (by decide) (br_t l1 ⟨n + 1, wx_hd0 (by omega) (br_t rfl ⟨vi, ?_⟩) nk n 0 (by omega)⟩))
        rw [cl]
        refine nm_e ⟨vi, nm_e ⟨vi, nm_e (nm_r (nI_1 _) (wx_find (by omega) R' ?_))⟩⟩
        exact wy_w3a win.1 win.2.1 win.2.2 (br_f l2 ⟨n + 1, wy_hd0 (by omega) R' ⟨rfl, fin⟩ nk n 0 (by omega)⟩)
    · have l1 : ¬ nI n < nI r := nI_nlt (by omega) (by omega)
      have l2 : nI n = nI r := by rw [show n = r by omega]
      exact wx_wi1 win.1 win.2.1 win.2.2 (br_f (by decide) (br_f l1 (wy_w3a win.1 win.2.1 win.2.2 (br_t l2 ⟨rfl, I0⟩))))
  · exact wx_wi0 win (br_t rfl (wy_w3b win ⟨rfl, I0⟩))
theorem i_vc_removeLast {k : Nat} {u : SX} {v : SY} (I : i_Rel k u v) (hk : k + 4 ≤ 2049) : wpX_removeLast (fun r u' => wpY_removeLast (fun r' v' => r' = r ∧ i_Rel (k + 4) u' v') v) u := by
  have I0 := I
  obtain ⟨r, n, X, Y, Z, S, h4, h14, hn, R, ds, II, CP, cap, sol, rfl, rfl⟩ := I
  cases n with
  | zero => exact br_t rfl (br_t rfl ⟨rfl, I0⟩)
  | succ n =>
    have hz : ¬ nI (n + 1) = 0 := nI_ne0 (by omega) (by omega)
    have R' : hi_rg X Y Z n := fun i hi => R i (by omega)
    have D' : ∀ i j, i < n → j < n → i ≠ j → hi_P X Y Z i ≠ hi_P X Y Z j := fun i j hi hj => ds i j (by omega) (by omega)
    have fin := ir_new (k + 4) h4 h14 (show n ≤ r by omega) R' D' S.2.1 S.2.2.1 S.2.2.2.1 S.2.2.2.2.1 S.2.2.2.2.2.1
    exact br_f hz (nm_r (nI_pred n) (wx_find (by omega) R' (br_f hz (nm_r (nI_pred n) (wy_find (by omega) R' ⟨rfl, fin⟩)))))
theorem i_vc_size {k : Nat} {u : SX} {v : SY} (I : i_Rel k u v) (hk : k + 4 ≤ 2049) : wpX_size (fun r => wpY_size (fun r' => r' = r ∧ i_Rel (k + 4) u v) v) u := by
  have I0 := I
  obtain ⟨r, n, X, Y, Z, S, h4, h14, hn, R, ds, II, CP, cap, sol, rfl, rfl⟩ := I
  exact ⟨rfl, I0⟩
theorem ir_s1 {b : Bool} {F : Nat} (h : b = true ↔ 0 < F) (h0 : 0 < F) : wt_i b = 1 := wt_1 (h.mpr h0)
theorem ir_s0 {b : Bool} {F : Nat} (h : b = true ↔ 0 < F) (h0 : ¬ 0 < F) : wt_i b = 0 := wt_0 fun e => h0 (h.mp e)
theorem i_vc_solid {k : Nat} {u : SX} {v : SY} (I : i_Rel k u v) (hk : k + 4 ≤ 2049) : wpX_solid (fun r => wpY_solid (fun r' => r' = r ∧ i_Rel (k + 4) u v) v) u := by
  have I0 := I
  obtain ⟨r, n, X, Y, Z, S, h4, h14, hn, R, ds, II, CP, cap, sol, rfl, rfl⟩ := I
  by_cases h0 : 0 < S.1
  · have e := ir_s1 sol h0
    refine wx_so1 h0 cap ⟨?_, ?_⟩
    · rw [e]; rfl
    · exact ⟨e, I0⟩
  · have e := ir_s0 sol h0
    refine wx_so0 (by omega) ⟨?_, ?_⟩
    · rw [e]; rfl
    · exact ⟨e, I0⟩
theorem i_vc_side {k : Nat} {u : SX} {v : SY} (I : i_Rel k u v) (hk : k + 4 ≤ 2049) (v1 : Int32) (v2 : Int32) (v3 : Int32) : wpX_side (fun r => wpY_side (fun r' => r' = r ∧ i_Rel (k + 4) u v) v v1 v2 v3) u v1 v2 v3 := by
  have I0 := I
  obtain ⟨r, n, X, Y, Z, S, h4, h14, hn, R, ds, II, CP, cap, sol, rfl, rfl⟩ := I
  unfold wpX_side wpY_side
  dsimp only
  by_cases win : ww_in v1 200 ∧ ww_in v2 200 ∧ ww_in v3 200
  · by_cases h0 : 0 < S.1
    · obtain ⟨q, hX, hY⟩ := wq_side (rm := nI r) (so := wt_i S.2.2.2.2.2.2) (n := n) (F := S.1) (X := X) (Y := Y) (Z := Z) (A := S.2.1) (B := S.2.2.1) (C := S.2.2.2.1) (D := S.2.2.2.2.1) (M := S.2.2.2.2.2.1) cap v1 v2 v3 S.1 0 (by omega) false
      exact wx_wi1 win.1 win.2.1 win.2.2 (br_f (by decide) (wx_so1 h0 cap (br_f (by decide) ⟨_, hX _ (wy_rp2 win.1 win.2.1 win.2.2 (ir_s1 sol h0) (br_t (by decide) ⟨_, hY _ ⟨rfl, I0⟩⟩))⟩)))
    · exact wx_wi1 win.1 win.2.1 win.2.2 (br_f (by decide) (wx_so0 (by omega) (br_t rfl (wy_rp1 win.1 win.2.1 win.2.2 (ir_s0 sol h0) (br_f (by decide) ⟨rfl, I0⟩)))))
  · exact wx_wi0 win (br_t rfl (wy_rp0 win (br_f (by decide) ⟨rfl, I0⟩)))
theorem i_vc_visible {k : Nat} {u : SX} {v : SY} (I : i_Rel k u v) (hk : k + 4 ≤ 2049) (v1 : Int32) (v2 : Int32) (v3 : Int32) : wpX_visible (fun r => wpY_visible (fun r' => r' = r ∧ i_Rel (k + 4) u v) v v1 v2 v3) u v1 v2 v3 := by
  have I0 := I
  obtain ⟨r, n, X, Y, Z, S, h4, h14, hn, R, ds, II, CP, cap, sol, rfl, rfl⟩ := I
  unfold wpX_visible wpY_visible
  dsimp only
  by_cases win : ww_in v1 200 ∧ ww_in v2 200 ∧ ww_in v3 200
  · by_cases h0 : 0 < S.1
    · obtain ⟨q, hX, hY⟩ := wq_vis (rm := nI r) (so := wt_i S.2.2.2.2.2.2) (n := n) (F := S.1) (X := X) (Y := Y) (Z := Z) (A := S.2.1) (B := S.2.2.1) (C := S.2.2.2.1) (D := S.2.2.2.2.1) (M := S.2.2.2.2.2.1) cap v1 v2 v3 S.1 0 (by omega) 0
      exact wx_wi1 win.1 win.2.1 win.2.2 (br_f (by decide) (wx_so1 h0 cap (br_f (by decide) ⟨_, hX _ (wy_rp2 win.1 win.2.1 win.2.2 (ir_s1 sol h0) (br_t (by decide) ⟨_, hY _ ⟨rfl, I0⟩⟩))⟩)))
    · exact wx_wi1 win.1 win.2.1 win.2.2 (br_f (by decide) (wx_so0 (by omega) (br_t rfl (wy_rp1 win.1 win.2.1 win.2.2 (ir_s0 sol h0) (br_f (by decide) ⟨rfl, I0⟩)))))
  · exact wx_wi0 win (br_t rfl (wy_rp0 win (br_f (by decide) ⟨rfl, I0⟩)))
theorem i_vc_facets {k : Nat} {u : SX} {v : SY} (I : i_Rel k u v) (hk : k + 4 ≤ 2049) : wpX_facets (fun r => wpY_facets (fun r' => r' = r ∧ i_Rel (k + 4) u v) v) u := by
  have I0 := I
  obtain ⟨r, n, X, Y, Z, S, h4, h14, hn, R, ds, II, CP, cap, sol, rfl, rfl⟩ := I
  unfold wpX_facets wpY_facets
  dsimp only
  by_cases h0 : 0 < S.1
  · exact wx_so1 h0 cap (br_f (by decide) (br_f (by rw [ir_s1 sol h0]; decide) ⟨rfl, I0⟩))
  · exact wx_so0 (by omega) (br_t rfl (br_t (ir_s0 sol h0) ⟨rfl, I0⟩))
theorem i_vc_corners {k : Nat} {u : SX} {v : SY} (I : i_Rel k u v) (hk : k + 4 ≤ 2049) : wpX_corners (fun r => wpY_corners (fun r' => r' = r ∧ i_Rel (k + 4) u v) v) u := by
  have I0 := I
  obtain ⟨r, n, X, Y, Z, S, h4, h14, hn, R, ds, II, CP, cap, sol, rfl, rfl⟩ := I
  unfold wpX_corners wpY_corners
  dsimp only
  by_cases h0 : 0 < S.1
  · obtain ⟨q, hX, hY⟩ := wq_crn (rm := nI r) (so := wt_i S.2.2.2.2.2.2) (n := n) (F := S.1) (X := X) (Y := Y) (Z := Z) (A := S.2.1) (B := S.2.2.1) (C := S.2.2.2.1) (D := S.2.2.2.2.1) (M := S.2.2.2.2.2.1) (by omega) cap n 0 (by omega) 0
    exact wx_so1 h0 cap (br_f (by decide) ⟨_, hX _ (br_f (by rw [ir_s1 sol h0]; decide) ⟨_, hY _ ⟨rfl, I0⟩⟩)⟩)
  · exact wx_so0 (by omega) (br_t rfl (br_t (ir_s0 sol h0) ⟨rfl, I0⟩))
theorem i_vc_edges {k : Nat} {u : SX} {v : SY} (I : i_Rel k u v) (hk : k + 4 ≤ 2049) : wpX_edges (fun r => wpY_edges (fun r' => r' = r ∧ i_Rel (k + 4) u v) v) u := by
  have I0 := I
  obtain ⟨r, n, X, Y, Z, S, h4, h14, hn, R, ds, II, CP, cap, sol, rfl, rfl⟩ := I
  unfold wpX_edges wpY_edges
  dsimp only
  by_cases h0 : 0 < S.1
  · obtain ⟨q, hX, hY⟩ := wq_edg (rm := nI r) (so := wt_i S.2.2.2.2.2.2) (n := n) (F := S.1) (X := X) (Y := Y) (Z := Z) (A := S.2.1) (B := S.2.2.1) (C := S.2.2.2.1) (D := S.2.2.2.2.1) (M := S.2.2.2.2.2.1) (by omega) cap n 0 (by omega) 0
    exact wx_so1 h0 cap (br_f (by decide) ⟨_, hX _ (br_f (by rw [ir_s1 sol h0]; decide) ⟨_, hY _ ⟨rfl, I0⟩⟩)⟩)
  · exact wx_so0 (by omega) (br_t rfl (br_t (ir_s0 sol h0) ⟨rfl, I0⟩))
theorem ir_pt (x : Int32) (n : Nat) : (∃ p, p < n ∧ x = nI p) ∨ (∀ p, p < n → x ≠ nI p) := by
  by_cases h : ∃ p, p < n ∧ x = nI p
  · exact Or.inl h
  · exact Or.inr fun p hp e => h ⟨p, hp, e⟩
theorem i_vc_corner {k : Nat} {u : SX} {v : SY} (I : i_Rel k u v) (hk : k + 4 ≤ 2049) (v1 : Int32) : wpX_corner (fun r => wpY_corner (fun r' => r' = r ∧ i_Rel (k + 4) u v) v v1) u v1 := by
  have I0 := I
  obtain ⟨r, n, X, Y, Z, S, h4, h14, hn, R, ds, II, CP, cap, sol, rfl, rfl⟩ := I
  unfold wpX_corner wpY_corner
  dsimp only
  have n14 : n ≤ 14 := by omega
  rcases ir_pt v1 n with ⟨a, ha, rfl⟩ | hx
  · by_cases h0 : 0 < S.1
    · by_cases c : 3 ≤ he_w S.1 (hi_B S.2.2.2.2.2.1) a a
      · exact wx_pt1 ha n14 (br_f (by decide) (wx_so1 h0 cap (br_f (by decide) (wx_cor1 (by omega) cap c (br_f (by decide) (wy_rq2 n14 ha ha (ir_s1 sol h0) (br_t (by decide) (wy_cor1 (by omega) cap c (br_f (by decide) ⟨rfl, I0⟩)))))))))
      · exact wx_pt1 ha n14 (br_f (by decide) (wx_so1 h0 cap (br_f (by decide) (wx_cor0 (by omega) cap c (br_t rfl (wy_rq2 n14 ha ha (ir_s1 sol h0) (br_t (by decide) (wy_cor0 (by omega) cap c (br_t rfl ⟨rfl, I0⟩)))))))))
    · exact wx_pt1 ha n14 (br_f (by decide) (wx_so0 (by omega) (br_t rfl (wy_rq1 n14 ha ha (ir_s0 sol h0) (br_f (by decide) ⟨rfl, I0⟩)))))
  · exact wx_pt0 hx n14 (br_t rfl (wy_rq0 n14 (Or.inl hx) (br_f (by decide) ⟨rfl, I0⟩)))
theorem i_vc_touching {k : Nat} {u : SX} {v : SY} (I : i_Rel k u v) (hk : k + 4 ≤ 2049) (v1 : Int32) : wpX_touching (fun r => wpY_touching (fun r' => r' = r ∧ i_Rel (k + 4) u v) v v1) u v1 := by
  have I0 := I
  obtain ⟨r, n, X, Y, Z, S, h4, h14, hn, R, ds, II, CP, cap, sol, rfl, rfl⟩ := I
  unfold wpX_touching wpY_touching wpY_shared
  dsimp only
  have n14 : n ≤ 14 := by omega
  rcases ir_pt v1 n with ⟨a, ha, rfl⟩ | hx
  · by_cases h0 : 0 < S.1
    · exact wx_pt1 ha n14 (br_f (by decide) (wx_so1 h0 cap (br_f (by decide) (wx_cnt (by omega) (by omega) cap (wy_rq2 n14 ha ha (ir_s1 sol h0) (br_t (by decide) (wy_cnt (by omega) (by omega) cap ⟨rfl, I0⟩)))))))
    · exact wx_pt1 ha n14 (br_f (by decide) (wx_so0 (by omega) (br_t rfl (wy_rq1 n14 ha ha (ir_s0 sol h0) (br_f (by decide) ⟨rfl, I0⟩)))))
  · exact wx_pt0 hx n14 (br_t rfl (wy_rq0 n14 (Or.inl hx) (br_f (by decide) ⟨rfl, I0⟩)))
theorem i_vc_edge {k : Nat} {u : SX} {v : SY} (I : i_Rel k u v) (hk : k + 4 ≤ 2049) (v1 : Int32) (v2 : Int32) : wpX_edge (fun r => wpY_edge (fun r' => r' = r ∧ i_Rel (k + 4) u v) v v1 v2) u v1 v2 := by
  have I0 := I
  obtain ⟨r, n, X, Y, Z, S, h4, h14, hn, R, ds, II, CP, cap, sol, rfl, rfl⟩ := I
  unfold wpX_edge wpY_edge
  dsimp only
  have n14 : n ≤ 14 := by omega
  rcases ir_pt v1 n with ⟨a, ha, rfl⟩ | hx
  · rcases ir_pt v2 n with ⟨b, hb, rfl⟩ | hy
    · by_cases h0 : 0 < S.1
      · by_cases c : he_e S.1 (hi_B S.2.2.2.2.2.1) a b = true
        · exact wx_pt1 ha n14 (br_f (by decide) (wx_pt1 hb n14 (br_f (by decide) (wx_so1 h0 cap (br_f (by decide) (wx_edg1 (by omega) (by omega) cap c (br_f (by decide) (wy_rq2 n14 ha hb (ir_s1 sol h0) (br_t (by decide) (wy_edg1 (by omega) (by omega) cap c (br_f (by decide) ⟨rfl, I0⟩)))))))))))
        · exact wx_pt1 ha n14 (br_f (by decide) (wx_pt1 hb n14 (br_f (by decide) (wx_so1 h0 cap (br_f (by decide) (wx_edg0 (by omega) (by omega) cap c (br_t rfl (wy_rq2 n14 ha hb (ir_s1 sol h0) (br_t (by decide) (wy_edg0 (by omega) (by omega) cap c (br_t rfl ⟨rfl, I0⟩)))))))))))
      · exact wx_pt1 ha n14 (br_f (by decide) (wx_pt1 hb n14 (br_f (by decide) (wx_so0 (by omega) (br_t rfl (wy_rq1 n14 ha hb (ir_s0 sol h0) (br_f (by decide) ⟨rfl, I0⟩)))))))
    · exact wx_pt1 ha n14 (br_f (by decide) (wx_pt0 hy n14 (br_t rfl (wy_rq0 n14 (Or.inr hy) (br_f (by decide) ⟨rfl, I0⟩)))))
  · exact wx_pt0 hx n14 (br_t rfl (wy_rq0 n14 (Or.inl hx) (br_f (by decide) ⟨rfl, I0⟩)))
theorem i_vc_shared {k : Nat} {u : SX} {v : SY} (I : i_Rel k u v) (hk : k + 4 ≤ 2049) (v1 : Int32) (v2 : Int32) : wpX_shared (fun r => wpY_shared (fun r' => r' = r ∧ i_Rel (k + 4) u v) v v1 v2) u v1 v2 := by
  have I0 := I
  obtain ⟨r, n, X, Y, Z, S, h4, h14, hn, R, ds, II, CP, cap, sol, rfl, rfl⟩ := I
  unfold wpX_shared wpY_shared
  dsimp only
  have n14 : n ≤ 14 := by omega
  rcases ir_pt v1 n with ⟨a, ha, rfl⟩ | hx
  · rcases ir_pt v2 n with ⟨b, hb, rfl⟩ | hy
    · by_cases h0 : 0 < S.1
      · exact wx_pt1 ha n14 (br_f (by decide) (wx_pt1 hb n14 (br_f (by decide) (wx_so1 h0 cap (br_f (by decide) (wx_cnt (by omega) (by omega) cap (wy_rq2 n14 ha hb (ir_s1 sol h0) (br_t (by decide) (wy_cnt (by omega) (by omega) cap ⟨rfl, I0⟩)))))))))
      · exact wx_pt1 ha n14 (br_f (by decide) (wx_pt1 hb n14 (br_f (by decide) (wx_so0 (by omega) (br_t rfl (wy_rq1 n14 ha hb (ir_s0 sol h0) (br_f (by decide) ⟨rfl, I0⟩)))))))
    · exact wx_pt1 ha n14 (br_f (by decide) (wx_pt0 hy n14 (br_t rfl (wy_rq0 n14 (Or.inr hy) (br_f (by decide) ⟨rfl, I0⟩)))))
  · exact wx_pt0 hx n14 (br_t rfl (wy_rq0 n14 (Or.inl hx) (br_f (by decide) ⟨rfl, I0⟩)))
theorem i_vc_sixVolume {k : Nat} {u : SX} {v : SY} (I : i_Rel k u v) (hk : k + 4 ≤ 2049) : wpX_sixVolume (fun r => wpY_sixVolume (fun r' => r' = r ∧ i_Rel (k + 4) u v) v) u := by
  have I0 := I
  obtain ⟨r, n, X, Y, Z, S, h4, h14, hn, R, ds, II, CP, cap, sol, rfl, rfl⟩ := I
  unfold wpX_sixVolume wpY_sixVolume
  dsimp only
  by_cases h0 : 0 < S.1
  · obtain ⟨q, hX, hY⟩ := wq_vol (rm := nI r) (so := wt_i S.2.2.2.2.2.2) (n := n) (F := S.1) (X := X) (Y := Y) (Z := Z) (A := S.2.1) (B := S.2.2.1) (C := S.2.2.2.1) (D := S.2.2.2.2.1) (M := S.2.2.2.2.2.1) (by omega) R cap II.1 CP ds S.1 0 (by omega) 0
    exact wx_so1 h0 cap (br_f (by decide) ⟨_, hX _ (br_f (by rw [ir_s1 sol h0]; decide) ⟨_, hY _ ⟨rfl, I0⟩⟩)⟩)
  · exact wx_so0 (by omega) (br_t rfl (br_t (ir_s0 sol h0) ⟨rfl, I0⟩))
theorem i_vc_farthest {k : Nat} {u : SX} {v : SY} (I : i_Rel k u v) (hk : k + 4 ≤ 2049) (v1 : Int32) (v2 : Int32) (v3 : Int32) : wpX_farthest (fun r => wpY_farthest (fun r' => r' = r ∧ i_Rel (k + 4) u v) v v1 v2 v3) u v1 v2 v3 := by
  have I0 := I
  obtain ⟨r, n, X, Y, Z, S, h4, h14, hn, R, ds, II, CP, cap, sol, rfl, rfl⟩ := I
  unfold wpX_farthest wpY_farthest
  dsimp only
  by_cases win : ww_in v1 200 ∧ ww_in v2 200 ∧ ww_in v3 200
  · by_cases h0 : 0 < S.1
    · obtain ⟨q, hX, hY⟩ := wq_far (rm := nI r) (so := wt_i S.2.2.2.2.2.2) (n := n) (F := S.1) (X := X) (Y := Y) (Z := Z) (A := S.2.1) (B := S.2.2.1) (C := S.2.2.2.1) (D := S.2.2.2.2.1) (M := S.2.2.2.2.2.1) (by omega) cap v1 v2 v3 n 0 (by omega) (-1) 0
      exact wx_wi1 win.1 win.2.1 win.2.2 (br_f (by decide) (wx_so1 h0 cap (br_f (by decide) ⟨_, hX _ (wy_rp2 win.1 win.2.1 win.2.2 (ir_s1 sol h0) (br_t (by decide) ⟨_, hY _ ⟨rfl, I0⟩⟩))⟩)))
    · exact wx_wi1 win.1 win.2.1 win.2.2 (br_f (by decide) (wx_so0 (by omega) (br_t rfl (wy_rp1 win.1 win.2.1 win.2.2 (ir_s0 sol h0) (br_f (by decide) ⟨rfl, I0⟩)))))
  · exact wx_wi0 win (br_t rfl (wy_rp0 win (br_f (by decide) ⟨rfl, I0⟩)))
end
