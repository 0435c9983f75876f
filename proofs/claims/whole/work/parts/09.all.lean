/-! all facet planes are found; no more than 24; some if the set is solid -/
def hl_has (k : Int32) (S : hp_T) : Prop := ∃ f, f < S.1 ∧ S.2.2.2.2.2.1 f = k
theorem hl_keep {k : Int32} {S : hp_T} (h : hl_has k S) (nx ny nz lv mk : Int32) : hl_has k (hp_keep S nx ny nz lv mk) := by
  unfold hp_keep
  by_cases kn : hp_kn S.2.2.2.2.2.1 S.1 mk = true
  · rw [if_pos kn]; exact h
  · rw [if_neg kn]
    obtain ⟨f, hf, e⟩ := h
    refine ⟨f, ?_, ?_⟩
    · (try dsimp only); omega
    · (try dsimp only); rw [pk_un (by omega)]; exact e
theorem hl_put (S : hp_T) (nx ny nz lv mk : Int32) : hl_has mk (hp_keep S nx ny nz lv mk) := by
  unfold hp_keep
  by_cases kn : hp_kn S.2.2.2.2.2.1 S.1 mk = true
  · rw [if_pos kn]
    unfold hp_kn at kn
    rw [hp_any_t] at kn
    obtain ⟨f, hf, e⟩ := kn
    exact ⟨f, hf, of_decide_eq_true e⟩
  · rw [if_neg kn]
    exact ⟨S.1, Nat.lt_succ_self _, pk_us⟩
theorem hl_try {k : Int32} {X Y Z : Nat → Int32} {n : Nat} (a b c : Nat) (S : hp_T) (h : hl_has k S) : hl_has k (hp_try X Y Z n a b c S) := by
  have h1 : ∀ x, hl_has k (hp_sl S x) := fun _ => h
  unfold hp_try
  by_cases k1 : hp_be X Y Z a b c n = true ∧ ¬ hp_ab X Y Z a b c n = true
  · rw [if_pos k1]; exact hl_keep (h1 _) _ _ _ _ _
  · rw [if_neg k1]
    by_cases k2 : hp_ab X Y Z a b c n = true ∧ ¬ hp_be X Y Z a b c n = true
    · rw [if_pos k2]; exact hl_keep (h1 _) _ _ _ _ _
    · rw [if_neg k2]; exact h1 _
set_option maxHeartbeats 2000000 in
theorem hl_cp {X Y Z : Nat → Int32} {n : Nat} (hn : n ≤ 14) (R : hi_rg X Y Z n) (S : hp_T) : hf_CP n (hi_P X Y Z) (hp_a X Y Z n S).1 (hi_B (hp_a X Y Z n S).2.2.2.2.2.1) := by
  intro w l hle ⟨d, hd, dl⟩
  have main : ∀ a b c, a < b → b < c → c < n → gv_d w (hi_P X Y Z a) = l → gv_d w (hi_P X Y Z b) = l → gv_d w (hi_P X Y Z c) = l → hf_nc (hi_P X Y Z a) (hi_P X Y Z b) (hi_P X Y Z c) →
      ∃ f, f < (hp_a X Y Z n S).1 ∧ ∀ i, i < n → (hi_B (hp_a X Y Z n S).2.2.2.2.2.1 f i = true ↔ gv_d w (hi_P X Y Z i) = l) := by
    intro a b c hab hbc hc ea eb ec nc
    have ha : a < n := by omega
    have hb : b < n := by omega
    have e : ∀ i, gv_d (hi_T (hi_P X Y Z) a b c) (hi_T (hi_P X Y Z) a b c) * (gv_d w (hi_P X Y Z i) - l) = gv_d (hi_T (hi_P X Y Z) a b c) w * hi_h (hi_P X Y Z) a b c i := by
      intro i
      have := gv_par2 w (gv_s (hi_P X Y Z b) (hi_P X Y Z a)) (gv_s (hi_P X Y Z c) (hi_P X Y Z a)) (gv_s (hi_P X Y Z i) (hi_P X Y Z a)) (by rw [gv_ds]; omega) (by rw [gv_ds]; omega)
      rw [gv_ds w (hi_P X Y Z i), ea] at this
      exact this
    have T0 : 0 < gv_d (hi_T (hi_P X Y Z) a b c) (hi_T (hi_P X Y Z) a b c) := by
      have h1 := gv_nn (hi_T (hi_P X Y Z) a b c)
      have h2 : gv_d (hi_T (hi_P X Y Z) a b c) (hi_T (hi_P X Y Z) a b c) ≠ 0 := nc
      omega
    have ab := hi_ab (n := n) R ha hb hc
    have be := hi_be (n := n) R ha hb hc
    have ms := fun i (hi : i < 32) => hi_ms hn R ha hb hc (i := i) hi
    generalize hT : gv_d (hi_T (hi_P X Y Z) a b c) (hi_T (hi_P X Y Z) a b c) = tt at *
    generalize hw : gv_d (hi_T (hi_P X Y Z) a b c) w = tw at *
    have ed := e d
    have dneg := Int.mul_neg_of_pos_of_neg T0 (show gv_d w (hi_P X Y Z d) - l < 0 by omega)
    have tw0 : tw ≠ 0 := by
      intro h
      rw [h, Int.zero_mul] at ed
      omega
    have z0 : ∀ i, hi_h (hi_P X Y Z) a b c i = 0 ↔ gv_d w (hi_P X Y Z i) = l := by
      intro i
      have ei := e i
      constructor
      · intro h
        rw [h, Int.mul_zero] at ei
        rcases Int.mul_eq_zero.mp ei with h | h <;> omega
      · intro h
        rw [h, Int.sub_self, Int.mul_zero] at ei
        rcases Int.mul_eq_zero.mp ei.symm with h | h
        · exact absurd h tw0
        · exact h
    have has : ∀ S, hl_has (hp_ms X Y Z a b c n) (hp_try X Y Z n a b c S) := by
      intro S
      unfold hp_try
      rcases Int.lt_or_gt_of_ne tw0 with hs | hs
      · have pos : ∀ i, i < n → 0 ≤ hi_h (hi_P X Y Z) a b c i := by
          intro i hi
          have ei := e i
          have := hle i hi
          have := Int.mul_nonpos_of_nonneg_of_nonpos (Int.le_of_lt T0) (show gv_d w (hi_P X Y Z i) - l ≤ 0 by omega)
          exact gv_m6 hs (by omega)
        have dd : 0 < hi_h (hi_P X Y Z) a b c d := by
          have h1 := pos d hd
          have h2 : hi_h (hi_P X Y Z) a b c d ≠ 0 := fun h => by have := (z0 d).mp h; omega
          omega
        have k2 : hp_ab X Y Z a b c n = true ∧ ¬ hp_be X Y Z a b c n = true := ⟨ab.mpr ⟨d, hd, dd⟩, fun h => by
          obtain ⟨i, hi, hlt⟩ := be.mp h
          have := pos i hi
          omega⟩
        rw [if_neg (fun k1 : hp_be X Y Z a b c n = true ∧ ¬ hp_ab X Y Z a b c n = true => k1.2 k2.1), if_pos k2]
        exact hl_put _ _ _ _ _ _
      · have neg : ∀ i, i < n → hi_h (hi_P X Y Z) a b c i ≤ 0 := by
          intro i hi
          have ei := e i
          have := hle i hi
          have := Int.mul_nonpos_of_nonneg_of_nonpos (Int.le_of_lt T0) (show gv_d w (hi_P X Y Z i) - l ≤ 0 by omega)
          exact gv_m3 hs (by omega)
        have dd : hi_h (hi_P X Y Z) a b c d < 0 := by
          have h1 := neg d hd
          have h2 : hi_h (hi_P X Y Z) a b c d ≠ 0 := fun h => by have := (z0 d).mp h; omega
          omega
        have k1 : hp_be X Y Z a b c n = true ∧ ¬ hp_ab X Y Z a b c n = true := ⟨be.mpr ⟨d, hd, dd⟩, fun h => by
          obtain ⟨i, hi, hlt⟩ := ab.mp h
          have := neg i hi
          omega⟩
        rw [if_pos k1]
        exact hl_put _ _ _ _ _ _
    obtain ⟨f, hf, ef⟩ := hp_a_est (J := hl_has (hp_ms X Y Z a b c n)) (fun a b c S h => hl_try a b c S h) hab hbc hc has S
    refine ⟨f, hf, fun i hi => ?_⟩
    unfold hi_B
    rw [ef, ms i (by omega), z0 i]
    exact ⟨fun k => k.2, fun k => ⟨hi, k⟩⟩
  intro a b c ha hb hc ea eb ec nc
  have nab : a ≠ b := fun e => hf_nc_ne nc (by rw [e])
  have nac : a ≠ c := fun e => hf_nc_ne (hf_nc2 nc) (by rw [e])
  have nbc : b ≠ c := fun e => hf_nc_ne (hf_nc2 (hf_nc1 nc)) (by rw [e])
  rcases Nat.lt_or_gt_of_ne nab with h1 | h1 <;> rcases Nat.lt_or_gt_of_ne nac with h2 | h2 <;> rcases Nat.lt_or_gt_of_ne nbc with h3 | h3
  · exact main a b c h1 h3 hc ea eb ec nc
  · exact main a c b h2 h3 hb ea ec eb (hf_nc2 nc)
  · exact absurd h1 (by omega)
  · exact main c a b h2 h1 hb ec ea eb (hf_nc1 (hf_nc2 nc))
  · exact main b a c h1 h2 hc eb ea ec (hf_nc1 nc)
  · exact absurd h1 (by omega)
  · exact main b c a h3 h2 ha eb ec ea (hf_nc2 (hf_nc1 nc))
  · exact main c b a h3 h1 ha ec eb ea (hf_nc2 (hf_nc1 (hf_nc2 nc)))
theorem hl_inj {X Y Z : Nat → Int32} {n : Nat} (R : hi_rg X Y Z n) : ∀ i j, i < n → j < n → hi_P X Y Z i ≠ hi_P X Y Z j → gv_d (1000000, 1000, 1) (hi_P X Y Z i) ≠ gv_d (1000000, 1000, 1) (hi_P X Y Z j) := by
  intro i j hi hj hne e
  apply hne
  have ri := R i hi
  have rj := R j hj
  unfold hi_in at ri rj
  simp only [gv_d] at e
  exact Prod.ext (by omega) (Prod.ext (by omega) (by omega))
theorem hl_cap {X Y Z : Nat → Int32} {n : Nat} (hn : n ≤ 14) (R : hi_rg X Y Z n) {S : hp_T} (h : hi_I (hi_P X Y Z) n S) : S.1 ≤ 24 := by
  have := hf_cap h.1 (1000000, 1000, 1) (hl_inj R)
  omega
theorem hl_ini (P : Nat → gv_V) (n : Nat) (a b c d e : Nat → Int32) : hi_I P n (0, a, b, c, d, e, false) := by
  refine ⟨⟨?_, ?_, ?_, ?_, ?_⟩, ?_, ?_, ?_⟩
  · intro f hf; exact absurd hf (Nat.not_lt_zero _)
  · intro f hf; exact absurd hf (Nat.not_lt_zero _)
  · intro f hf; exact absurd hf (Nat.not_lt_zero _)
  · intro f hf; exact absurd hf (Nat.not_lt_zero _)
  · intro f g hf; exact absurd hf (Nat.not_lt_zero _)
  · intro f hf; exact absurd hf (Nat.not_lt_zero _)
  · intro hf; exact absurd hf (Nat.not_lt_zero _)
  · intro hf; exact absurd (show false = true from hf) (by decide)
theorem hl_all {X Y Z : Nat → Int32} {n : Nat} (hn : n ≤ 14) (R : hi_rg X Y Z n) (a b c d e : Nat → Int32) :
    hi_I (hi_P X Y Z) n (hp_a X Y Z n (0, a, b, c, d, e, false)) ∧ hf_CP n (hi_P X Y Z) (hp_a X Y Z n (0, a, b, c, d, e, false)).1 (hi_B (hp_a X Y Z n (0, a, b, c, d, e, false)).2.2.2.2.2.1) ∧ (hp_a X Y Z n (0, a, b, c, d, e, false)).1 ≤ 24 ∧ ((hp_a X Y Z n (0, a, b, c, d, e, false)).2.2.2.2.2.2 = true ↔ 0 < (hp_a X Y Z n (0, a, b, c, d, e, false)).1) := by
  have h1 : hi_I (hi_P X Y Z) n (hp_a X Y Z n (0, a, b, c, d, e, false)) := hp_a_inv (fun a b c S hab hbc hc h => hi_try hn R a b c S hab hbc hc h) _ (hl_ini _ _ _ _ _ _ _)
  have h2 := hl_cp hn R (0, a, b, c, d, e, false)
  exact ⟨h1, h2, hl_cap hn R h1, fun h => hf_some h2 (h1.2.2.2 h), h1.2.2.1⟩
