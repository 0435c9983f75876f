/-! sums, counts, greatest elements -/
def hs_n (g : Nat → Nat) : Nat → Nat
  | 0 => 0
  | k + 1 => hs_n g k + g k
def hs_i (g : Nat → Int) : Nat → Int
  | 0 => 0
  | k + 1 => hs_i g k + g k
def hs_c (p : Nat → Bool) : Nat → Nat
  | 0 => 0
  | k + 1 => hs_c p k + (if p k = true then 1 else 0)
theorem hs_c_t {p : Nat → Bool} {k : Nat} (h : p k = true) : hs_c p (k + 1) = hs_c p k + 1 := by
  simp [hs_c, h]
theorem hs_c_f {p : Nat → Bool} {k : Nat} (h : ¬ p k = true) : hs_c p (k + 1) = hs_c p k := by
  simp [hs_c, h]
theorem hs_c_le (p : Nat → Bool) : ∀ k, hs_c p k ≤ k := by
  intro k
  induction k with
  | zero => exact Nat.le_refl 0
  | succ k ih =>
    by_cases h : p k = true
    · rw [hs_c_t h]; omega
    · rw [hs_c_f h]; omega
theorem hs_c_pick {p : Nat → Bool} {j : Nat} : ∀ k, j < hs_c p k → ∃ i, i < k ∧ p i = true ∧ j ≤ hs_c p i := by
  intro k
  induction k with
  | zero => intro h; exact absurd h (Nat.not_lt_zero _)
  | succ k ih =>
    intro h
    by_cases hp : p k = true
    · rw [hs_c_t hp] at h
      exact ⟨k, by omega, hp, by omega⟩
    · rw [hs_c_f hp] at h
      obtain ⟨i, hi, pi, hj⟩ := ih h
      exact ⟨i, by omega, pi, hj⟩
theorem hs_c_mono {p : Nat → Bool} {i : Nat} : ∀ k, i ≤ k → hs_c p i ≤ hs_c p k := by
  intro k
  induction k with
  | zero => intro h; have : i = 0 := by omega
            rw [this]; exact Nat.le_refl _
  | succ k ih =>
    intro h
    by_cases e : i = k + 1
    · rw [e]; exact Nat.le_refl _
    · have h1 := ih (by omega)
      by_cases hp : p k = true
      · rw [hs_c_t hp]; omega
      · rw [hs_c_f hp]; omega
theorem hs_c_put {p : Nat → Bool} {i j k : Nat} (h : i < k) (hp : p i = true) (hj : j ≤ hs_c p i) : j + 1 ≤ hs_c p k := by
  have := hs_c_mono (p := p) (i := i + 1) k (by omega)
  rw [hs_c_t hp] at this
  omega
theorem hs_c_zero {p : Nat → Bool} : ∀ k, (∀ i, i < k → ¬ p i = true) → hs_c p k = 0 := by
  intro k
  induction k with
  | zero => intro _; rfl
  | succ k ih => intro h; rw [hs_c_f (h k (by omega))]; exact ih fun i hi => h i (by omega)
theorem hs_c_congr {p q : Nat → Bool} : ∀ k, (∀ i, i < k → p i = q i) → hs_c p k = hs_c q k := by
  intro k
  induction k with
  | zero => intro _; rfl
  | succ k ih => intro h; simp only [hs_c]; rw [ih fun i hi => h i (by omega), h k (by omega)]
theorem hs_c2_out {p : Nat → Bool} {k : Nat} (h : 2 ≤ hs_c p k) : ∃ a b, a < k ∧ b < k ∧ p a = true ∧ p b = true ∧ a ≠ b := by
  obtain ⟨a, ha, pa, h1⟩ := hs_c_pick (p := p) (j := 1) k (by omega)
  obtain ⟨b, hb, pb, _⟩ := hs_c_pick (p := p) (j := 0) a (by omega)
  exact ⟨a, b, ha, by omega, pa, pb, by omega⟩
theorem hs_c2_in {p : Nat → Bool} {k a b : Nat} (ha : a < k) (hb : b < k) (pa : p a = true) (pb : p b = true) (hab : a ≠ b) : 2 ≤ hs_c p k := by
  rcases Nat.lt_or_gt_of_ne hab with h | h
  · exact hs_c_put hb pb (hs_c_put h pa (Nat.zero_le _))
  · exact hs_c_put ha pa (hs_c_put h pb (Nat.zero_le _))
theorem hs_c3_out {p : Nat → Bool} {k : Nat} (h : 3 ≤ hs_c p k) : ∃ a b c, a < k ∧ b < k ∧ c < k ∧ p a = true ∧ p b = true ∧ p c = true ∧ a ≠ b ∧ a ≠ c ∧ b ≠ c := by
  obtain ⟨a, ha, pa, h1⟩ := hs_c_pick (p := p) (j := 2) k (by omega)
  obtain ⟨b, hb, pb, h2⟩ := hs_c_pick (p := p) (j := 1) a (by omega)
  obtain ⟨c, hc, pc, _⟩ := hs_c_pick (p := p) (j := 0) b (by omega)
  exact ⟨a, b, c, ha, by omega, by omega, pa, pb, pc, by omega, by omega, by omega⟩
theorem hs_c3_lt {p : Nat → Bool} {k a b c : Nat} (hab : a < b) (hbc : b < c) (hc : c < k) (pa : p a = true) (pb : p b = true) (pc : p c = true) : 3 ≤ hs_c p k :=
  hs_c_put hc pc (hs_c_put hbc pb (hs_c_put hab pa (Nat.zero_le _)))
theorem hs_c3_in {p : Nat → Bool} {k a b c : Nat} (ha : a < k) (hb : b < k) (hc : c < k) (pa : p a = true) (pb : p b = true) (pc : p c = true) (hab : a ≠ b) (hac : a ≠ c) (hbc : b ≠ c) : 3 ≤ hs_c p k := by
  rcases Nat.lt_or_gt_of_ne hab with h1 | h1 <;> rcases Nat.lt_or_gt_of_ne hac with h2 | h2 <;> rcases Nat.lt_or_gt_of_ne hbc with h3 | h3
  · exact hs_c3_lt h1 h3 hc pa pb pc
  · exact hs_c3_lt h2 h3 hb pa pc pb
  · exact absurd h1 (by omega)
  · exact hs_c3_lt h2 h1 hb pc pa pb
  · exact hs_c3_lt h1 h2 hc pb pa pc
  · exact absurd h1 (by omega)
  · exact hs_c3_lt h3 h2 ha pb pc pa
  · exact hs_c3_lt h3 h1 ha pc pb pa
theorem hs_c3_two {p : Nat → Bool} {k : Nat} (h : 3 ≤ hs_c p k) (f : Nat) : ∃ a b, a < k ∧ b < k ∧ p a = true ∧ p b = true ∧ a ≠ f ∧ b ≠ f ∧ a ≠ b := by
  obtain ⟨a, b, c, ha, hb, hc, pa, pb, pc, hab, hac, hbc⟩ := hs_c3_out h
  by_cases e : a = f
  · exact ⟨b, c, hb, hc, pb, pc, by omega, by omega, hbc⟩
  · by_cases e2 : b = f
    · exact ⟨a, c, ha, hc, pa, pc, e, by omega, hac⟩
    · exact ⟨a, b, ha, hb, pa, pb, e, e2, hab⟩
theorem hs_n_add (g h : Nat → Nat) : ∀ n, hs_n (fun v => g v + h v) n = hs_n g n + hs_n h n := by
  intro n
  induction n with
  | zero => rfl
  | succ n ih => simp only [hs_n]; rw [ih]; omega
theorem hs_n_zero (g : Nat → Nat) : ∀ n, (∀ v, v < n → g v = 0) → hs_n g n = 0 := by
  intro n
  induction n with
  | zero => intro _; rfl
  | succ n ih => intro h; simp only [hs_n]; rw [ih fun v hv => h v (by omega), h n (by omega)]
theorem hs_n_one (t : Nat) : ∀ n, t < n → hs_n (fun v => if (t == v) = true then 1 else 0) n = 1 := by
  intro n
  induction n with
  | zero => intro h; exact absurd h (Nat.not_lt_zero _)
  | succ n ih =>
    intro h
    simp only [hs_n]
    by_cases e : t = n
    · rw [hs_n_zero (fun v => if (t == v) = true then 1 else 0) n (fun v hv => by
        have : ¬ (t == v) = true := by simp; omega
        exact if_neg this)]
      simp [e]
    · rw [ih (by omega)]
      have : ¬ (t == n) = true := by simp; omega
      rw [if_neg this]
theorem hs_fib (w : Nat → Nat) (n : Nat) : ∀ F, (∀ f, f < F → w f < n) → hs_n (fun v => hs_c (fun f => w f == v) F) n = F := by
  intro F
  induction F with
  | zero => intro _; exact hs_n_zero _ n fun _ _ => rfl
  | succ F ih =>
    intro h
    have e : (fun v => hs_c (fun f => w f == v) (F + 1)) = (fun v => hs_c (fun f => w f == v) F + (if (w F == v) = true then 1 else 0)) := rfl
    rw [e, hs_n_add (fun v => hs_c (fun f => w f == v) F) (fun v => if (w F == v) = true then 1 else 0), ih fun f hf => h f (by omega), hs_n_one _ n (h F (by omega))]
theorem hs_cap (c : Nat → Nat) (t b : Nat) (tb : t ≠ b) (ct : c t = 0) (cb : c b = 0) : ∀ n, (∀ v, v < n → c v ≤ 2) → hs_n c n + (if t < n then 2 else 0) + (if b < n then 2 else 0) ≤ 2 * n := by
  intro n
  induction n with
  | zero => intro _; simp [hs_n]
  | succ n ih =>
    intro h
    have i1 := ih fun v hv => h v (by omega)
    have i2 := h n (by omega)
    simp only [hs_n]
    by_cases e1 : n = t
    · subst e1
      rw [if_neg (by omega)] at i1
      rw [if_pos (by omega), ct]
      by_cases e2 : b < n
      · rw [if_pos e2] at i1; rw [if_pos (by omega)]; omega
      · rw [if_neg e2] at i1; rw [if_neg (by omega)]; omega
    · by_cases e3 : n = b
      · subst e3
        rw [if_neg (Nat.lt_irrefl n)] at i1
        rw [if_pos (Nat.lt_succ_self n), cb]
        by_cases e2 : t < n
        · rw [if_pos e2] at i1; rw [if_pos (by omega)]; omega
        · rw [if_neg e2] at i1; rw [if_neg (by omega)]; omega
      · by_cases e2 : t < n
        · rw [if_pos e2] at i1; rw [if_pos (show t < n + 1 by omega)]
          by_cases e4 : b < n
          · rw [if_pos e4] at i1; rw [if_pos (show b < n + 1 by omega)]; omega
          · rw [if_neg e4] at i1; rw [if_neg (show ¬ b < n + 1 by omega)]; omega
        · rw [if_neg e2] at i1; rw [if_neg (show ¬ t < n + 1 by omega)]
          by_cases e4 : b < n
          · rw [if_pos e4] at i1; rw [if_pos (show b < n + 1 by omega)]; omega
          · rw [if_neg e4] at i1; rw [if_neg (show ¬ b < n + 1 by omega)]; omega
theorem hs_bd (g : Nat → Int) : ∀ n, ∃ K : Int, 0 ≤ K ∧ ∀ i, i < n → g i ≤ K := by
  intro n
  induction n with
  | zero => exact ⟨0, Int.le_refl _, fun i hi => absurd hi (Nat.not_lt_zero _)⟩
  | succ n ih =>
    obtain ⟨K, h0, hK⟩ := ih
    by_cases h : g n ≤ K
    · exact ⟨K, h0, fun i hi => by
        by_cases e : i = n
        · rw [e]; exact h
        · exact hK i (by omega)⟩
    · exact ⟨g n, by omega, fun i hi => by
        by_cases e : i = n
        · rw [e]; exact Int.le_refl _
        · have := hK i (by omega); omega⟩
theorem hr_max (S : Nat → Prop) (R : Nat → Nat → Prop) (tot : ∀ a b, S a → S b → R a b ∨ R b a) (tr : ∀ a b c, S a → S b → S c → R a b → R b c → R a c) :
    ∀ n, (∃ i, i < n ∧ S i) → ∃ q, q < n ∧ S q ∧ ∀ r, r < n → S r → R q r := by
  have rf : ∀ a, S a → R a a := fun a h => (tot a a h h).elim id id
  intro n
  induction n with
  | zero => intro ⟨i, hi, _⟩; exact absurd hi (Nat.not_lt_zero _)
  | succ k ih =>
    intro ⟨i, hi, si⟩
    by_cases hk : ∃ i, i < k ∧ S i
    · obtain ⟨q, hq, sq, hm⟩ := ih hk
      by_cases sk : S k
      · rcases tot q k sq sk with h | h
        · exact ⟨q, by omega, sq, fun r hr sr => by
            by_cases e : r = k
            · rw [e]; exact h
            · exact hm r (by omega) sr⟩
        · exact ⟨k, by omega, sk, fun r hr sr => by
            by_cases e : r = k
            · rw [e]; exact rf k sk
            · exact tr k q r sk sq sr h (hm r (by omega) sr)⟩
      · exact ⟨q, by omega, sq, fun r hr sr => by
          by_cases e : r = k
          · rw [e] at sr; exact absurd sr sk
          · exact hm r (by omega) sr⟩
    · have e : i = k := Classical.byContradiction fun h => hk ⟨i, by omega, si⟩
      subst e
      exact ⟨i, by omega, si, fun r hr sr => by
        by_cases e : r = i
        · rw [e]; exact rf i si
        · exact absurd ⟨r, by omega, sr⟩ hk⟩
/-! turning a plane about a line until it meets a point -/
theorem hr_ex2 (n : Nat) (s t : Nat → Int) (c z : Nat) (hs : ∀ i, i < n → s i ≤ 0) (hc : c < n) (sc : s c < 0) (hz : z < n) (cz : 0 < s c * t z - s z * t c) :
    ∃ q, q < n ∧ 0 < s c * t q - s q * t c ∧ ∀ r, r < n → s q * t r - s r * t q ≤ 0 := by
  obtain ⟨q, hq, sq, hm⟩ := hr_max (fun i => 0 < s c * t i - s i * t c) (fun q r => s q * t r - s r * t q ≤ 0)
    (fun a b _ _ => by (try dsimp only); omega)
    (fun a b w sa sb sw hab hbw => by
      (try dsimp only at *)
      have e : (s c * t b - s b * t c) * (s a * t w - s w * t a) = (s c * t a - s a * t c) * (s b * t w - s w * t b) + (s c * t w - s w * t c) * (s a * t b - s b * t a) := by grobner
      have e1 := Int.mul_nonpos_of_nonneg_of_nonpos (Int.le_of_lt sa) hbw
      have e2 := Int.mul_nonpos_of_nonneg_of_nonpos (Int.le_of_lt sw) hab
      exact gv_m3 sb (by omega))
    n ⟨z, hz, cz⟩
  refine ⟨q, hq, sq, fun r hr => ?_⟩
  (try dsimp only at sq hm)
  by_cases sr : 0 < s c * t r - s r * t c
  · exact hm r hr sr
  · have e : s c * (s q * t r - s r * t q) = s q * (s c * t r - s r * t c) + (- s r) * (s c * t q - s q * t c) := by grobner
    have e1 := Int.mul_nonneg_of_nonpos_of_nonpos (hs q hq) (show s c * t r - s r * t c ≤ 0 by omega)
    have h1 : 0 ≤ - s r := by have := hs r hr; omega
    have e2 := Int.mul_nonneg h1 (Int.le_of_lt sq)
    exact gv_m5 sc (by omega)
theorem hr_rot1 (n : Nat) (Q : Nat → gv_V) (m u : gv_V) (c z : Nat) (mu : gv_d m u = 0) (hm : ∀ i, i < n → gv_d m (Q i) ≤ 0) (hc : c < n) (mc : gv_d m (Q c) < 0) (hz : z < n) (cz : gv_d (gv_x u (Q c)) (Q z) < 0) :
    ∃ q w, q < n ∧ gv_d w u = 0 ∧ gv_d w (Q q) = 0 ∧ gv_d (gv_x u (Q q)) (gv_x u (Q q)) ≠ 0 ∧ (∀ i, i < n → gv_d w (Q i) ≤ 0) ∧ gv_d w (Q c) < 0 := by
  have m0 : 0 < gv_d m m := by
    have h1 := gv_nn m
    have h2 := gv_ne (w := m) (q := Q c) (by omega)
    omega
  have id : ∀ A B : gv_V, gv_d m A * gv_d (gv_x m u) B - gv_d m B * gv_d (gv_x m u) A = - (gv_d m m * gv_d (gv_x u A) B) := by
    intro A B
    have e : gv_d m A * gv_d (gv_x m u) B - gv_d m B * gv_d (gv_x m u) A = gv_d m u * gv_d m (gv_x A B) - gv_d m m * gv_d (gv_x u A) B := by
      simp only [gv_d, gv_x]; grobner
    rw [e, mu, Int.zero_mul]; omega
  obtain ⟨q, hq, cq, hr⟩ := hr_ex2 n (fun i => gv_d m (Q i)) (fun i => gv_d (gv_x m u) (Q i)) c z hm hc mc hz (by
    (try dsimp only)
    rw [id]
    have := Int.mul_neg_of_pos_of_neg m0 cz
    omega)
  (try dsimp only at cq hr)
  rw [id] at cq
  have wq : gv_d (gv_x u (Q q)) (Q c) = - gv_d (gv_x u (Q c)) (Q q) := gv_anti _ _ _
  have c1 : gv_d (gv_x u (Q c)) (Q q) < 0 := by
    apply Classical.byContradiction
    intro hn
    have := Int.mul_nonneg (Int.le_of_lt m0) (show 0 ≤ gv_d (gv_x u (Q c)) (Q q) by omega)
    omega
  refine ⟨q, gv_c (-1) (gv_x u (Q q)), hq, ?_, ?_, ?_, ?_, ?_⟩
  · rw [gv_dcl, gv_xl] <;> rfl
  · rw [gv_dcl, gv_xr] <;> rfl
  · exact gv_ne (q := Q c) (by omega)
  · intro i hi
    have h := hr i hi
    rw [id] at h
    have h2 := gv_m4 m0 (show 0 ≤ gv_d m m * gv_d (gv_x u (Q q)) (Q i) by omega)
    rw [gv_dcl]; omega
  · rw [gv_dcl]; omega
theorem hr_rot (n : Nat) (Q : Nat → gv_V) (m u : gv_V) (c : Nat) (u0 : gv_d u u ≠ 0) (mu : gv_d m u = 0) (hm : ∀ i, i < n → gv_d m (Q i) ≤ 0) (hc : c < n) (mc : gv_d m (Q c) < 0) (so : ∀ w : gv_V, (∀ i, i < n → gv_d w (Q i) = 0) → gv_d w w = 0) :
    ∃ q w, q < n ∧ gv_d w u = 0 ∧ gv_d w (Q q) = 0 ∧ gv_d (gv_x u (Q q)) (gv_x u (Q q)) ≠ 0 ∧ (∀ i, i < n → gv_d w (Q i) ≤ 0) ∧ gv_d w (Q c) < 0 := by
  have w0 : gv_d (gv_x u (Q c)) (gv_x u (Q c)) ≠ 0 := by
    apply gv_ne (q := gv_x u m)
    rw [gv_bc, gv_comm u m, mu, Int.mul_zero, Int.sub_zero]
    refine Int.mul_ne_zero u0 ?_
    rw [gv_comm]; omega
  have hz : ∃ z, z < n ∧ gv_d (gv_x u (Q c)) (Q z) ≠ 0 := by
    apply Classical.byContradiction
    intro hn
    exact w0 (so _ fun i hi => Classical.byContradiction fun h => hn ⟨i, hi, h⟩)
  obtain ⟨z, hz, cz⟩ := hz
  rcases Int.lt_or_gt_of_ne cz with h | h
  · exact hr_rot1 n Q m u c z mu hm hc mc hz h
  · have e : ∀ A B : gv_V, gv_d (gv_x (gv_c (-1) u) A) B = - gv_d (gv_x u A) B := by
      intro A B
      simp only [gv_d, gv_x, gv_c]; grobner
    obtain ⟨q, w, hq, wu, wq, nq, hw, wc⟩ := hr_rot1 n Q m (gv_c (-1) u) c z (by rw [gv_dcr, mu] <;> rfl) hm hc mc hz (by rw [e]; omega)
    refine ⟨q, w, hq, ?_, wq, ?_, hw, wc⟩
    · rw [gv_dcr] at wu; omega
    · intro h0
      apply nq
      have e2 : gv_d (gv_x (gv_c (-1) u) (Q q)) (gv_x (gv_c (-1) u) (Q q)) = gv_d (gv_x u (Q q)) (gv_x u (Q q)) := by
        simp only [gv_d, gv_x, gv_c]; grobner
      rw [e2]; exact h0
theorem hr_perp (m : gv_V) : ∃ u : gv_V, gv_d u u ≠ 0 ∧ gv_d m u = 0 := by
  by_cases h : m.1 = 0 ∧ m.2.1 = 0
  · exact ⟨(1, 0, 0), by simp [gv_d], by simp [gv_d, h.1]⟩
  · refine ⟨(m.2.1, - m.1, 0), ?_, ?_⟩
    · intro e
      obtain ⟨h1, h2, _⟩ := gv_zc e
      exact h ⟨by have h2' : - m.1 = 0 := h2; omega, h1⟩
    · simp only [gv_d]; grobner
theorem hr_dr (n : Nat) (Q : Nat → gv_V) (m : gv_V) (c : Nat) (hm : ∀ i, i < n → gv_d m (Q i) ≤ 0) (hc : c < n) (mc : gv_d m (Q c) < 0) (so : ∀ w : gv_V, (∀ i, i < n → gv_d w (Q i) = 0) → gv_d w w = 0) :
    ∃ q r w, q < n ∧ r < n ∧ gv_d w (Q q) = 0 ∧ gv_d w (Q r) = 0 ∧ gv_d (gv_x (Q q) (Q r)) (gv_x (Q q) (Q r)) ≠ 0 ∧ (∀ i, i < n → gv_d w (Q i) ≤ 0) ∧ gv_d w (Q c) < 0 := by
  obtain ⟨u, u0, mu⟩ := hr_perp m
  obtain ⟨q, w, hq, wu, wq, nq, hw, wc⟩ := hr_rot n Q m u c u0 mu hm hc mc so
  have q0 : gv_d (Q q) (Q q) ≠ 0 := by
    intro h0
    apply nq
    obtain ⟨e1, e2, e3⟩ := gv_zc h0
    simp [gv_d, gv_x, e1, e2, e3]
  obtain ⟨r, w2, hr, w2q, w2r, nr, hw2, w2c⟩ := hr_rot n Q w (Q q) c q0 wq hw hc wc so
  exact ⟨q, r, w2, hq, hr, w2q, w2r, nr, hw2, w2c⟩
