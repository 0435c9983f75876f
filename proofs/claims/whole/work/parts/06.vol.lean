/-! the fan over a facet does not depend on its hub -/
theorem hs_i_congr {g h : Nat → Int} : ∀ n, (∀ i, i < n → g i = h i) → hs_i g n = hs_i h n := by
  intro n
  induction n with
  | zero => intro _; rfl
  | succ n ih => intro e; simp only [hs_i]; rw [ih fun i hi => e i (by omega), e n (by omega)]
theorem hs_i_add (g h : Nat → Int) : ∀ n, hs_i (fun i => g i + h i) n = hs_i g n + hs_i h n := by
  intro n
  induction n with
  | zero => rfl
  | succ n ih => simp only [hs_i]; rw [ih]; omega
theorem hs_i_sub (g h : Nat → Int) : ∀ n, hs_i (fun i => g i - h i) n = hs_i g n - hs_i h n := by
  intro n
  induction n with
  | zero => rfl
  | succ n ih => simp only [hs_i]; rw [ih]; omega
theorem hs_i_mul (c : Int) (g : Nat → Int) : ∀ n, hs_i (fun i => c * g i) n = c * hs_i g n := by
  intro n
  induction n with
  | zero => exact (Int.mul_zero c).symm
  | succ n ih => simp only [hs_i]; rw [ih, Int.mul_add]
theorem hs_i_zero {g : Nat → Int} : ∀ n, (∀ i, i < n → g i = 0) → hs_i g n = 0 := by
  intro n
  induction n with
  | zero => intro _; rfl
  | succ n ih => intro e; simp only [hs_i]; rw [ih fun i hi => e i (by omega), e n (by omega)] <;> rfl
theorem hs_i_one {g : Nat → Int} {j : Nat} : ∀ n, j < n → g j = 1 → (∀ i, i < n → i ≠ j → g i = 0) → hs_i g n = 1 := by
  intro n
  induction n with
  | zero => intro h; exact absurd h (Nat.not_lt_zero _)
  | succ n ih =>
    intro hj e0 e1
    simp only [hs_i]
    by_cases e : j = n
    · subst e
      rw [hs_i_zero j fun i hi => e1 i (by omega) (by omega), e0] <;> rfl
    · rw [ih (by omega) e0 fun i hi => e1 i (by omega), e1 n (by omega) (fun h => e h.symm)] <;> rfl
theorem hs_i_swap (g : Nat → Nat → Int) (m : Nat) : ∀ n, hs_i (fun a => hs_i (fun b => g a b) m) n = hs_i (fun b => hs_i (fun a => g a b) n) m := by
  intro n
  induction n with
  | zero => exact (hs_i_zero m fun _ _ => rfl).symm
  | succ n ih =>
    have e : hs_i (fun b => hs_i (fun a => g a b) (n + 1)) m = hs_i (fun b => hs_i (fun a => g a b) n + g n b) m := rfl
    rw [e, hs_i_add (fun b => hs_i (fun a => g a b) n) (fun b => g n b), ← ih]
    rfl
theorem hs_tri (G : Nat → Nat → Int) (G0 : ∀ a, G a a = 0) : ∀ n, hs_i (fun a => hs_i (fun b => if a < b then G a b + G b a else 0) n) n = hs_i (fun a => hs_i (fun b => G a b) n) n := by
  intro n
  induction n with
  | zero => rfl
  | succ n ih =>
    have e1 : hs_i (fun a => hs_i (fun b => if a < b then G a b + G b a else 0) (n + 1)) (n + 1) = hs_i (fun a => hs_i (fun b => if a < b then G a b + G b a else 0) n + (if a < n then G a n + G n a else 0)) n + (hs_i (fun b => if n < b then G n b + G b n else 0) n + (if n < n then G n n + G n n else 0)) := rfl
    have e2 : hs_i (fun a => hs_i (fun b => G a b) (n + 1)) (n + 1) = hs_i (fun a => hs_i (fun b => G a b) n + G a n) n + (hs_i (fun b => G n b) n + G n n) := rfl
    rw [e1, e2, hs_i_add (fun a => hs_i (fun b => if a < b then G a b + G b a else 0) n) (fun a => if a < n then G a n + G n a else 0), hs_i_add (fun a => hs_i (fun b => G a b) n) (fun a => G a n), ih, G0, if_neg (Nat.lt_irrefl n)]
    have e3 : hs_i (fun b => if n < b then G n b + G b n else 0) n = 0 := hs_i_zero n fun i hi => if_neg (by omega)
    have e4 : hs_i (fun a => if a < n then G a n + G n a else 0) n = hs_i (fun a => G a n + G n a) n := hs_i_congr n fun i hi => if_pos hi
    rw [e3, e4, hs_i_add (fun a => G a n) (fun a => G n a)]
    omega
noncomputable def hv_ind (p : Prop) : Int := @ite Int p (Classical.propDecidable p) 1 0
theorem hv_ind_t {p : Prop} (h : p) : hv_ind p = 1 := by unfold hv_ind; exact if_pos h
theorem hv_ind_f {p : Prop} (h : ¬ p) : hv_ind p = 0 := by unfold hv_ind; exact if_neg h
theorem gv_par3 (N u v q : gv_V) (hu : gv_d N u = 0) (hv : gv_d N v = 0) : gv_d N N * gv_d (gv_x u v) q = gv_d N (gv_x u v) * gv_d N q := by
  have e : gv_d N N * gv_d (gv_x u v) q = gv_d N (gv_x u v) * gv_d N q - gv_d N v * gv_d (gv_x N u) q + gv_d N u * gv_d (gv_x N v) q := by
    simp only [gv_d, gv_x]; grobner
  rw [e, hu, hv, Int.zero_mul, Int.zero_mul, Int.sub_zero, Int.add_zero]
theorem hv_D (N a b r : gv_V) : gv_d N (gv_x (gv_s a b) (gv_s r b)) = - gv_d N (gv_x (gv_s b a) (gv_s r a)) := by
  simp only [gv_d, gv_x, gv_s]; grobner
def hv_T (o h a b : gv_V) : Int := gv_d (gv_s h o) (gv_x (gv_s a o) (gv_s b o))
theorem hv_T1 (o h a b : gv_V) : hv_T o h a b = gv_d (gv_x (gv_s a h) (gv_s b h)) (gv_s h o) := by
  simp only [hv_T, gv_d, gv_x, gv_s]; grobner
theorem hv_D1 (N h a b : gv_V) : gv_d N (gv_x (gv_s a h) (gv_s b h)) = gv_d N (gv_x (gv_s b a) (gv_s h a)) := by
  simp only [gv_d, gv_x, gv_s]; grobner
theorem hv_D2 (N h k a b : gv_V) : gv_d N (gv_x (gv_s b a) (gv_s h a)) - gv_d N (gv_x (gv_s b a) (gv_s k a)) = gv_d (gv_x (gv_s h k) N) b - gv_d (gv_x (gv_s h k) N) a := by
  simp only [gv_d, gv_x, gv_s]; grobner
def hv_abs (x : Int) : Int := if x < 0 then - x else x
theorem hv_abs_n {x : Int} (h : 0 ≤ x) : hv_abs x = x := if_neg (by omega)
theorem hv_abs_p {x : Int} (h : x ≤ 0) : hv_abs x = - x := by
  unfold hv_abs
  by_cases e : x < 0
  · rw [if_pos e]
  · rw [if_neg e]; omega
def he_e (F : Nat) (B : Nat → Nat → Bool) (a b : Nat) : Bool := decide (a ≠ b ∧ 3 ≤ he_w F B a a ∧ 3 ≤ he_w F B b b ∧ 2 ≤ he_w F B a b)
theorem he_e_sym {F : Nat} {B : Nat → Nat → Bool} {a b : Nat} (h : he_e F B a b = true) : he_e F B b a = true := by
  have h' := of_decide_eq_true h
  exact decide_eq_true ⟨Ne.symm h'.1, h'.2.2.1, h'.2.1, by rw [he_w_comm]; exact h'.2.2.2⟩
def hv_t (P : Nat → gv_V) (F : Nat) (B : Nat → Nat → Bool) (f h a b : Nat) : Int :=
  if a < b ∧ B f a = true ∧ B f b = true ∧ he_e F B a b = true then hv_abs (hv_T (P 0) (P h) (P a) (P b)) else 0
def hv_S (n : Nat) (P : Nat → gv_V) (F : Nat) (B : Nat → Nat → Bool) (f h : Nat) : Int := hs_i (fun a => hs_i (fun b => hv_t P F B f h a b) n) n
def hv_O (n : Nat) (P N : Nat → gv_V) (F : Nat) (B : Nat → Nat → Bool) (f a b : Nat) : Prop :=
  B f a = true ∧ B f b = true ∧ he_e F B a b = true ∧ ∀ r, r < n → B f r = true → 0 ≤ gv_d (N f) (gv_x (gv_s (P b) (P a)) (gv_s (P r) (P a)))
set_option maxHeartbeats 2000000 in
theorem hv_term {n F : Nat} {P N : Nat → gv_V} {L : Nat → Int} {B : Nat → Nat → Bool} (H : hf_FL n P F N L B) (dist : ∀ i j, i < n → j < n → i ≠ j → P i ≠ P j) {f : Nat} (hf : f < F) {h a b : Nat} (hh : h < n) (fh : B f h = true) (ha : a < n) (hb : b < n) (ab : a < b) :
    gv_d (N f) (N f) * hv_t P F B f h a b = (L f - gv_d (N f) (P 0)) * ((hv_ind (hv_O n P N F B f a b) - hv_ind (hv_O n P N F B f b a)) * gv_d (N f) (gv_x (gv_s (P b) (P a)) (gv_s (P h) (P a)))) := by
  obtain ⟨hle, hB, hnc, hst, hdis⟩ := id H
  by_cases c : B f a = true ∧ B f b = true ∧ he_e F B a b = true
  · obtain ⟨fa, fb, ee⟩ := c
    have ht : hv_t P F B f h a b = hv_abs (hv_T (P 0) (P h) (P a) (P b)) := if_pos ⟨ab, fa, fb, ee⟩
    have e' := of_decide_eq_true ee
    obtain ⟨⟨x, hx, fx, Dx⟩, hs⟩ := he_side H hf ha hb (dist a b ha hb (by omega)) fa fb e'.2.2.2
    have ea := (hB f hf a ha).mp fa
    have eb := (hB f hf b hb).mp fb
    have eh := (hB f hf h hh).mp fh
    have N0 : 0 < gv_d (N f) (N f) := by
      have h1 := gv_nn (N f)
      obtain ⟨d, hd, dl⟩ := hst f hf
      have h2 : gv_d (N f) (N f) ≠ 0 := by
        apply gv_ne (q := gv_s (P d) (P a))
        rw [gv_ds]; omega
      omega
    have l0 : 0 ≤ L f - gv_d (N f) (P 0) := by have := hle f hf 0 (by omega); omega
    have key : gv_d (N f) (N f) * hv_T (P 0) (P h) (P a) (P b) = gv_d (N f) (gv_x (gv_s (P b) (P a)) (gv_s (P h) (P a))) * (L f - gv_d (N f) (P 0)) := by
      rw [hv_T1, gv_par3 (N f) (gv_s (P a) (P h)) (gv_s (P b) (P h)) (gv_s (P h) (P 0)) (by rw [gv_ds]; omega) (by rw [gv_ds]; omega), hv_D1, gv_ds (N f) (P h) (P 0), eh]
    rw [ht]
    rcases hs with hs | hs
    · have o1 : hv_O n P N F B f a b := ⟨fa, fb, ee, hs⟩
      have o2 : ¬ hv_O n P N F B f b a := fun o => by
        have h1 := o.2.2.2 x hx fx
        have h2 := hs x hx fx
        rw [hv_D] at h1
        omega
      have d0 := hs h hh fh
      have t0 : 0 ≤ hv_T (P 0) (P h) (P a) (P b) := gv_m4 N0 (by rw [key]; exact Int.mul_nonneg d0 l0)
      rw [hv_ind_t o1, hv_ind_f o2, hv_abs_n t0, key, Int.sub_zero, Int.one_mul, Int.mul_comm]
    · have o1 : hv_O n P N F B f b a := ⟨fb, fa, he_e_sym ee, fun r hr fr => by
        have := hs r hr fr
        rw [hv_D]; omega⟩
      have o2 : ¬ hv_O n P N F B f a b := fun o => by
        have h1 := o.2.2.2 x hx fx
        have h2 := hs x hx fx
        omega
      have d0 := hs h hh fh
      have t0 : hv_T (P 0) (P h) (P a) (P b) ≤ 0 := gv_m3 N0 (by rw [key]; exact Int.mul_nonpos_of_nonpos_of_nonneg d0 l0)
      rw [hv_ind_t o1, hv_ind_f o2, hv_abs_p t0, Int.mul_neg, key]
      grobner
  · have ht : hv_t P F B f h a b = 0 := if_neg fun k => c k.2
    have o1 : ¬ hv_O n P N F B f a b := fun o => c ⟨o.1, o.2.1, o.2.2.1⟩
    have o2 : ¬ hv_O n P N F B f b a := fun o => c ⟨o.2.1, o.1, he_e_sym o.2.2.1⟩
    rw [ht, hv_ind_f o1, hv_ind_f o2]
    simp
set_option maxHeartbeats 2000000 in
theorem hv_out {n F : Nat} {P N : Nat → gv_V} {L : Nat → Int} {B : Nat → Nat → Bool} (H : hf_FL n P F N L B) (C : hf_CP n P F B) (dist : ∀ i j, i < n → j < n → i ≠ j → P i ≠ P j) {f v : Nat} (hf : f < F) (hv : v < n) :
    hs_i (fun b => hv_ind (hv_O n P N F B f v b)) n = hv_ind (B f v = true ∧ 3 ≤ he_w F B v v) ∧ hs_i (fun b => hv_ind (hv_O n P N F B f b v)) n = hv_ind (B f v = true ∧ 3 ≤ he_w F B v v) := by
  obtain ⟨hle, hB, hnc, hst, hdis⟩ := id H
  by_cases c : B f v = true ∧ 3 ≤ he_w F B v v
  · obtain ⟨fv, cv⟩ := c
    have ev := (hB f hf v hv).mp fv
    have N0 : gv_d (N f) (N f) ≠ 0 := by
      obtain ⟨d, hd, dl⟩ := hst f hf
      apply gv_ne (q := gv_s (P d) (P v))
      rw [gv_ds]; omega
    have z : ∀ r, r < n → B f r = true → gv_d (N f) (gv_s (P r) (P v)) = 0 := by
      intro r hr fr
      rw [gv_ds, ev, (hB f hf r hr).mp fr, Int.sub_self]
    rw [hv_ind_t ⟨fv, cv⟩]
    constructor
    · obtain ⟨b, hb, bv, fb, cb, wb, hD⟩ := he_ex H C dist hf hv fv cv (N f) z N0
      refine hs_i_one n hb (hv_ind_t ⟨fv, fb, decide_eq_true ⟨Ne.symm bv, cv, cb, wb⟩, hD⟩) fun i hi ib => hv_ind_f fun o => ib ?_
      have o' := of_decide_eq_true o.2.2.1
      exact he_un H dist hf hv fv cv (N f) z N0 hi hb (Ne.symm o'.1) bv o.2.1 fb o'.2.2.1 cb (o.2.2.2 b hb fb) (hD i hi o.2.1)
    · have zm : ∀ r, r < n → B f r = true → gv_d (gv_c (-1) (N f)) (gv_s (P r) (P v)) = 0 := by
        intro r hr fr
        rw [gv_dcl, z r hr fr] <;> rfl
      have m0 : gv_d (gv_c (-1) (N f)) (gv_c (-1) (N f)) ≠ 0 := by
        rw [gv_dcl, gv_dcr]; omega
      obtain ⟨b, hb, bv, fb, cb, wb, hD⟩ := he_ex H C dist hf hv fv cv (gv_c (-1) (N f)) zm m0
      have hb2 : 2 ≤ he_w F B b v := by rw [he_w_comm]; exact wb
      refine hs_i_one n hb (hv_ind_t ⟨fb, fv, decide_eq_true ⟨bv, cb, cv, hb2⟩, fun r hr fr => by
        have := hD r hr fr
        rw [gv_dcl] at this
        rw [hv_D]; omega⟩) fun i hi ib => hv_ind_f fun o => ib ?_
      have o' := of_decide_eq_true o.2.2.1
      have oD := o.2.2.2 b hb fb
      rw [hv_D] at oD
      exact he_un H dist hf hv fv cv (gv_c (-1) (N f)) zm m0 hi hb o'.1 bv o.1 fb o'.2.1 cb (by rw [gv_dcl]; omega) (hD i hi o.1)
  · rw [hv_ind_f c]
    constructor
    · exact hs_i_zero n fun i hi => hv_ind_f fun o => c ⟨o.1, (of_decide_eq_true o.2.2.1).2.1⟩
    · exact hs_i_zero n fun i hi => hv_ind_f fun o => c ⟨o.2.1, (of_decide_eq_true o.2.2.1).2.2.1⟩
set_option maxHeartbeats 2000000 in
theorem hv_vol {n F : Nat} {P N : Nat → gv_V} {L : Nat → Int} {B : Nat → Nat → Bool} (H : hf_FL n P F N L B) (C : hf_CP n P F B) (dist : ∀ i j, i < n → j < n → i ≠ j → P i ≠ P j) {f : Nat} (hf : f < F) {h k : Nat} (hh : h < n) (hk : k < n) (fh : B f h = true) (fk : B f k = true) :
    hv_S n P F B f h = hv_S n P F B f k := by
  have N0 : gv_d (N f) (N f) ≠ 0 := by
    obtain ⟨d, hd, dl⟩ := H.2.2.2.1 f hf
    apply gv_ne (q := gv_s (P d) (P h))
    have := (H.2.1 f hf h hh).mp fh
    rw [gv_ds]; omega
  have t1 : ∀ a, a < n → ∀ b, b < n → gv_d (N f) (N f) * (hv_t P F B f h a b - hv_t P F B f k a b) = (L f - gv_d (N f) (P 0)) * (if a < b then hv_ind (hv_O n P N F B f a b) * (gv_d (gv_x (gv_s (P h) (P k)) (N f)) (P b) - gv_d (gv_x (gv_s (P h) (P k)) (N f)) (P a)) + hv_ind (hv_O n P N F B f b a) * (gv_d (gv_x (gv_s (P h) (P k)) (N f)) (P a) - gv_d (gv_x (gv_s (P h) (P k)) (N f)) (P b)) else 0) := by
    intro a ha b hb
    by_cases ab : a < b
    · rw [if_pos ab, Int.mul_sub, hv_term H dist hf hh fh ha hb ab, hv_term H dist hf hk fk ha hb ab]
      have e := hv_D2 (N f) (P h) (P k) (P a) (P b)
      generalize gv_d (N f) (gv_x (gv_s (P b) (P a)) (gv_s (P h) (P a))) = x at *
      generalize gv_d (N f) (gv_x (gv_s (P b) (P a)) (gv_s (P k) (P a))) = y at *
      generalize gv_d (gv_x (gv_s (P h) (P k)) (N f)) (P b) = p at *
      generalize gv_d (gv_x (gv_s (P h) (P k)) (N f)) (P a) = q at *
      generalize hv_ind (hv_O n P N F B f a b) = i at *
      generalize hv_ind (hv_O n P N F B f b a) = j at *
      generalize L f - gv_d (N f) (P 0) = l at *
      have e2 : x = y + (p - q) := by omega
      subst e2
      grobner
    · have c1 : hv_t P F B f h a b = 0 := if_neg fun k => ab k.1
      have c2 : hv_t P F B f k a b = 0 := if_neg fun k => ab k.1
      rw [if_neg ab, c1, c2]
      simp
  have s1 : gv_d (N f) (N f) * (hv_S n P F B f h - hv_S n P F B f k) = (L f - gv_d (N f) (P 0)) * hs_i (fun a => hs_i (fun b => if a < b then hv_ind (hv_O n P N F B f a b) * (gv_d (gv_x (gv_s (P h) (P k)) (N f)) (P b) - gv_d (gv_x (gv_s (P h) (P k)) (N f)) (P a)) + hv_ind (hv_O n P N F B f b a) * (gv_d (gv_x (gv_s (P h) (P k)) (N f)) (P a) - gv_d (gv_x (gv_s (P h) (P k)) (N f)) (P b)) else 0) n) n := by
    unfold hv_S
    rw [← hs_i_sub, ← hs_i_mul, ← hs_i_mul]
    refine hs_i_congr n fun a ha => ?_
    (try dsimp only)
    rw [← hs_i_sub, ← hs_i_mul, ← hs_i_mul]
    exact hs_i_congr n fun b hb => t1 a ha b hb
  have s2 := hs_tri (fun a b => hv_ind (hv_O n P N F B f a b) * (gv_d (gv_x (gv_s (P h) (P k)) (N f)) (P b) - gv_d (gv_x (gv_s (P h) (P k)) (N f)) (P a))) (fun a => by (try dsimp only); rw [Int.sub_self, Int.mul_zero]) n
  (try dsimp only at s2)
  rw [s2] at s1
  have s3 : hs_i (fun a => hs_i (fun b => hv_ind (hv_O n P N F B f a b) * (gv_d (gv_x (gv_s (P h) (P k)) (N f)) (P b) - gv_d (gv_x (gv_s (P h) (P k)) (N f)) (P a))) n) n = 0 := by
    have u1 : hs_i (fun a => hs_i (fun b => hv_ind (hv_O n P N F B f a b) * (gv_d (gv_x (gv_s (P h) (P k)) (N f)) (P b) - gv_d (gv_x (gv_s (P h) (P k)) (N f)) (P a))) n) n
        = hs_i (fun a => hs_i (fun b => gv_d (gv_x (gv_s (P h) (P k)) (N f)) (P b) * hv_ind (hv_O n P N F B f a b)) n) n - hs_i (fun a => hs_i (fun b => gv_d (gv_x (gv_s (P h) (P k)) (N f)) (P a) * hv_ind (hv_O n P N F B f a b)) n) n := by
      rw [← hs_i_sub]
      refine hs_i_congr n fun a _ => ?_
      (try dsimp only)
      rw [← hs_i_sub]
      refine hs_i_congr n fun b _ => ?_
      (try dsimp only)
      grobner
    rw [u1, hs_i_swap (fun a b => gv_d (gv_x (gv_s (P h) (P k)) (N f)) (P b) * hv_ind (hv_O n P N F B f a b)) n n, ← hs_i_sub]
    refine hs_i_zero n fun v hv => ?_
    (try dsimp only)
    rw [hs_i_mul, hs_i_mul, (hv_out H C dist hf hv).1, (hv_out H C dist hf hv).2, Int.sub_self]
  rw [s3, Int.mul_zero] at s1
  rcases Int.mul_eq_zero.mp s1 with e | e
  · exact absurd e N0
  · omega
