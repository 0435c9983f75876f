/-! the fold's list is the list of all facet planes -/
theorem hi_mb {a b A C : Int} (h1 : -A ≤ a) (h2 : a ≤ A) (h3 : -C ≤ b) (h4 : b ≤ C) : -(A * C) ≤ a * b ∧ a * b ≤ A * C := by
  have p1 := Int.mul_nonneg (show 0 ≤ A - a by omega) (show 0 ≤ C + b by omega)
  have p2 := Int.mul_nonneg (show 0 ≤ A + a by omega) (show 0 ≤ C - b by omega)
  have p3 := Int.mul_nonneg (show 0 ≤ A + a by omega) (show 0 ≤ C + b by omega)
  have p4 := Int.mul_nonneg (show 0 ≤ A - a by omega) (show 0 ≤ C - b by omega)
  simp only [Int.mul_add, Int.add_mul, Int.mul_sub, Int.sub_mul] at p1 p2 p3 p4
  omega
def hi_P (X Y Z : Nat → Int32) (i : Nat) : gv_V := ((X i).toInt, (Y i).toInt, (Z i).toInt)
def hi_in (k : Int) (p : gv_V) : Prop := -k ≤ p.1 ∧ p.1 ≤ k ∧ -k ≤ p.2.1 ∧ p.2.1 ≤ k ∧ -k ≤ p.2.2 ∧ p.2.2 ≤ k
def hi_rg (X Y Z : Nat → Int32) (n : Nat) : Prop := ∀ i, i < n → hi_in 60 (hi_P X Y Z i)
theorem hi_in_s {a b : gv_V} (ha : hi_in 60 a) (hb : hi_in 60 b) : hi_in 120 (gv_s a b) := by
  unfold hi_in gv_s at *
  (try dsimp only)
  omega
theorem hi_in_x {a b : gv_V} (ha : hi_in 120 a) (hb : hi_in 120 b) : hi_in 28800 (gv_x a b) := by
  unfold hi_in at ha hb
  have m1 := hi_mb ha.2.2.1 ha.2.2.2.1 hb.2.2.2.2.1 hb.2.2.2.2.2
  have m2 := hi_mb ha.2.2.2.2.1 ha.2.2.2.2.2 hb.2.2.1 hb.2.2.2.1
  have m3 := hi_mb ha.2.2.2.2.1 ha.2.2.2.2.2 hb.1 hb.2.1
  have m4 := hi_mb ha.1 ha.2.1 hb.2.2.2.2.1 hb.2.2.2.2.2
  have m5 := hi_mb ha.1 ha.2.1 hb.2.2.1 hb.2.2.2.1
  have m6 := hi_mb ha.2.2.1 ha.2.2.2.1 hb.1 hb.2.1
  unfold hi_in gv_x
  (try dsimp only)
  omega
theorem hi_in_d {a b : gv_V} (ha : hi_in 28800 a) (hb : hi_in 120 b) : -10368000 ≤ gv_d a b ∧ gv_d a b ≤ 10368000 := by
  unfold hi_in at ha hb
  have m1 := hi_mb ha.1 ha.2.1 hb.1 hb.2.1
  have m2 := hi_mb ha.2.2.1 ha.2.2.2.1 hb.2.2.1 hb.2.2.2.1
  have m3 := hi_mb ha.2.2.2.2.1 ha.2.2.2.2.2 hb.2.2.2.2.1 hb.2.2.2.2.2
  unfold gv_d
  omega
theorem hi_60 {a : gv_V} (h : hi_in 60 a) : hi_in 120 a := by unfold hi_in at *; omega
def hi_T (P : Nat → gv_V) (a b c : Nat) : gv_V := gv_x (gv_s (P b) (P a)) (gv_s (P c) (P a))
def hi_h (P : Nat → gv_V) (a b c i : Nat) : Int := gv_d (hi_T P a b c) (gv_s (P i) (P a))
theorem hi_nx (X Y Z : Nat → Int32) (a b c : Nat) : hp_nx X Y Z a b c = Int32.ofInt (hi_T (hi_P X Y Z) a b c).1 := by
  simp only [hp_nx, hi_T, hi_P, gv_x, gv_s, Int32.ofInt_sub, Int32.ofInt_mul, Int32.ofInt_toInt]
theorem hi_ny (X Y Z : Nat → Int32) (a b c : Nat) : hp_ny X Y Z a b c = Int32.ofInt (hi_T (hi_P X Y Z) a b c).2.1 := by
  simp only [hp_ny, hi_T, hi_P, gv_x, gv_s, Int32.ofInt_sub, Int32.ofInt_mul, Int32.ofInt_toInt]
theorem hi_nz (X Y Z : Nat → Int32) (a b c : Nat) : hp_nz X Y Z a b c = Int32.ofInt (hi_T (hi_P X Y Z) a b c).2.2 := by
  simp only [hp_nz, hi_T, hi_P, gv_x, gv_s, Int32.ofInt_sub, Int32.ofInt_mul, Int32.ofInt_toInt]
theorem hi_lv (X Y Z : Nat → Int32) (a b c : Nat) : hp_lv X Y Z a b c = Int32.ofInt (gv_d (hi_T (hi_P X Y Z) a b c) (hi_P X Y Z a)) := by
  unfold hp_lv
  rw [hi_nx, hi_ny, hi_nz]
  generalize hi_T (hi_P X Y Z) a b c = t
  simp only [gv_d, hi_P, Int32.ofInt_add, Int32.ofInt_mul, Int32.ofInt_toInt]
theorem hi_ht (X Y Z : Nat → Int32) (a b c p : Nat) : hp_ht X Y Z a b c p = Int32.ofInt (hi_h (hi_P X Y Z) a b c p) := by
  unfold hp_ht hi_h
  rw [gv_ds, hi_lv, hi_nx, hi_ny, hi_nz]
  generalize hi_T (hi_P X Y Z) a b c = t
  simp only [gv_d, hi_P, Int32.ofInt_sub, Int32.ofInt_add, Int32.ofInt_mul, Int32.ofInt_toInt]
theorem hi_toI {h : Int} (h1 : -1000000000 ≤ h) (h2 : h ≤ 1000000000) : (Int32.ofInt h).toInt = h := Int32.toInt_ofInt_of_le (by omega) (by omega)
theorem hi_0 : (0 : Int32).toInt = 0 := by decide
theorem hi_pos {h : Int} (h1 : -1000000000 ≤ h) (h2 : h ≤ 1000000000) : 0 < Int32.ofInt h ↔ 0 < h := by
  rw [Int32.lt_iff_toInt_lt, hi_toI h1 h2, hi_0]
theorem hi_neg {h : Int} (h1 : -1000000000 ≤ h) (h2 : h ≤ 1000000000) : Int32.ofInt h < 0 ↔ h < 0 := by
  rw [Int32.lt_iff_toInt_lt, hi_toI h1 h2, hi_0]
theorem hi_eq0 {h : Int} (h1 : -1000000000 ≤ h) (h2 : h ≤ 1000000000) : Int32.ofInt h = 0 ↔ h = 0 := by
  rw [← Int32.toInt_inj, hi_toI h1 h2, hi_0]
theorem hi_inT {X Y Z : Nat → Int32} {n a b c : Nat} (R : hi_rg X Y Z n) (ha : a < n) (hb : b < n) (hc : c < n) : hi_in 28800 (hi_T (hi_P X Y Z) a b c) :=
  hi_in_x (hi_in_s (R b hb) (R a ha)) (hi_in_s (R c hc) (R a ha))
theorem hi_inh {X Y Z : Nat → Int32} {n a b c i : Nat} (R : hi_rg X Y Z n) (ha : a < n) (hb : b < n) (hc : c < n) (hi : i < n) : -10368000 ≤ hi_h (hi_P X Y Z) a b c i ∧ hi_h (hi_P X Y Z) a b c i ≤ 10368000 :=
  hi_in_d (hi_inT R ha hb hc) (hi_in_s (R i hi) (R a ha))
theorem hi_ab {X Y Z : Nat → Int32} {n a b c : Nat} (R : hi_rg X Y Z n) (ha : a < n) (hb : b < n) (hc : c < n) : hp_ab X Y Z a b c n = true ↔ ∃ i, i < n ∧ 0 < hi_h (hi_P X Y Z) a b c i := by
  unfold hp_ab
  rw [hp_any_t]
  constructor
  · intro ⟨i, hi, h⟩
    have h' := of_decide_eq_true h
    have k := hi_inh R ha hb hc hi
    rw [hi_ht, hi_pos (by omega) (by omega)] at h'
    exact ⟨i, hi, h'⟩
  · intro ⟨i, hi, h⟩
    have k := hi_inh R ha hb hc hi
    exact ⟨i, hi, decide_eq_true (by rw [hi_ht, hi_pos (by omega) (by omega)]; exact h)⟩
theorem hi_be {X Y Z : Nat → Int32} {n a b c : Nat} (R : hi_rg X Y Z n) (ha : a < n) (hb : b < n) (hc : c < n) : hp_be X Y Z a b c n = true ↔ ∃ i, i < n ∧ hi_h (hi_P X Y Z) a b c i < 0 := by
  unfold hp_be
  rw [hp_any_t]
  constructor
  · intro ⟨i, hi, h⟩
    have h' := of_decide_eq_true h
    have k := hi_inh R ha hb hc hi
    rw [hi_ht, hi_neg (by omega) (by omega)] at h'
    exact ⟨i, hi, h'⟩
  · intro ⟨i, hi, h⟩
    have k := hi_inh R ha hb hc hi
    exact ⟨i, hi, decide_eq_true (by rw [hi_ht, hi_neg (by omega) (by omega)]; exact h)⟩
theorem hi_ms {X Y Z : Nat → Int32} {n a b c : Nat} (hn : n ≤ 14) (R : hi_rg X Y Z n) (ha : a < n) (hb : b < n) (hc : c < n) {i : Nat} (hi : i < 32) : bt (hp_ms X Y Z a b c n) i = true ↔ i < n ∧ hi_h (hi_P X Y Z) a b c i = 0 := by
  unfold hp_ms
  rw [hp_mk_bt n (by omega) i hi, Bool.and_eq_true]
  constructor
  · intro ⟨h1, h2⟩
    have h1' := of_decide_eq_true h1
    have h2' := of_decide_eq_true h2
    have k := hi_inh R ha hb hc h1'
    rw [hi_ht, hi_eq0 (by omega) (by omega)] at h2'
    exact ⟨h1', h2'⟩
  · intro ⟨h1, h2⟩
    have k := hi_inh R ha hb hc h1
    exact ⟨decide_eq_true h1, decide_eq_true (by rw [hi_ht, hi_eq0 (by omega) (by omega)]; exact h2)⟩
def hi_B (M : Nat → Int32) (f i : Nat) : Bool := bt (M f) i
def hi_N (S : hp_T) (f : Nat) : gv_V := ((S.2.1 f).toInt, (S.2.2.1 f).toInt, (S.2.2.2.1 f).toInt)
def hi_L (S : hp_T) (f : Nat) : Int := (S.2.2.2.2.1 f).toInt
def hi_I (P : Nat → gv_V) (n : Nat) (S : hp_T) : Prop :=
  hf_FL n P S.1 (hi_N S) (hi_L S) (hi_B S.2.2.2.2.2.1) ∧ (∀ f, f < S.1 → ∀ i, n ≤ i → i < 32 → bt (S.2.2.2.2.2.1 f) i = false) ∧ (0 < S.1 → S.2.2.2.2.2.2 = true) ∧ (S.2.2.2.2.2.2 = true → hf_so n P)
set_option maxHeartbeats 2000000 in
theorem hi_keep {P : Nat → gv_V} {n : Nat} (hn : n ≤ 14) {S : hp_T} (h : hi_I P n S) (hs : S.2.2.2.2.2.2 = true) {nx ny nz lv mk : Int32} {m : gv_V} {l : Int} (em : (nx.toInt, ny.toInt, nz.toInt) = m) (el : lv.toInt = l)
    (c1 : ∀ i, i < n → gv_d m (P i) ≤ l) (c2 : ∀ i, i < 32 → (bt mk i = true ↔ i < n ∧ gv_d m (P i) = l))
    (c3 : ∃ a b c, a < n ∧ b < n ∧ c < n ∧ gv_d m (P a) = l ∧ gv_d m (P b) = l ∧ gv_d m (P c) = l ∧ hf_nc (P a) (P b) (P c)) (c4 : ∃ d, d < n ∧ gv_d m (P d) < l) : hi_I P n (hp_keep S nx ny nz lv mk) := by
  unfold hp_keep
  by_cases kn : hp_kn S.2.2.2.2.2.1 S.1 mk = true
  · rw [if_pos kn]; exact h
  rw [if_neg kn]
  obtain ⟨⟨hle, hB, hnc, hst, hdis⟩, hhi, h3, h4⟩ := h
  have kn' : ∀ f, f < S.1 → S.2.2.2.2.2.1 f ≠ mk := by
    intro f hf e
    apply kn
    unfold hp_kn
    rw [hp_any_t]
    exact ⟨f, hf, decide_eq_true e⟩
  have mkh : ∀ i, n ≤ i → i < 32 → bt mk i = false := by
    intro i h1 h2
    cases hb : bt mk i with
    | false => rfl
    | true => exact absurd ((c2 i h2).mp hb).1 (by omega)
  have nF : hi_N (S.1 + 1, upd S.2.1 S.1 nx, upd S.2.2.1 S.1 ny, upd S.2.2.2.1 S.1 nz, upd S.2.2.2.2.1 S.1 lv, upd S.2.2.2.2.2.1 S.1 mk, S.2.2.2.2.2.2) S.1 = m := by
    simp only [hi_N, pk_us]; exact em
  have nO : ∀ f, f ≠ S.1 → hi_N (S.1 + 1, upd S.2.1 S.1 nx, upd S.2.2.1 S.1 ny, upd S.2.2.2.1 S.1 nz, upd S.2.2.2.2.1 S.1 lv, upd S.2.2.2.2.2.1 S.1 mk, S.2.2.2.2.2.2) f = hi_N S f := by
    intro f hf
    simp only [hi_N, pk_un hf]
  have lF : hi_L (S.1 + 1, upd S.2.1 S.1 nx, upd S.2.2.1 S.1 ny, upd S.2.2.2.1 S.1 nz, upd S.2.2.2.2.1 S.1 lv, upd S.2.2.2.2.2.1 S.1 mk, S.2.2.2.2.2.2) S.1 = l := by
    simp only [hi_L, pk_us]; exact el
  have lO : ∀ f, f ≠ S.1 → hi_L (S.1 + 1, upd S.2.1 S.1 nx, upd S.2.2.1 S.1 ny, upd S.2.2.2.1 S.1 nz, upd S.2.2.2.2.1 S.1 lv, upd S.2.2.2.2.2.1 S.1 mk, S.2.2.2.2.2.2) f = hi_L S f := by
    intro f hf
    simp only [hi_L, pk_un hf]
  have bF : ∀ i, hi_B (upd S.2.2.2.2.2.1 S.1 mk) S.1 i = bt mk i := fun i => by simp only [hi_B, pk_us]
  have bO : ∀ f, f ≠ S.1 → ∀ i, hi_B (upd S.2.2.2.2.2.1 S.1 mk) f i = hi_B S.2.2.2.2.2.1 f i := fun f hf i => by simp only [hi_B, pk_un hf]
  unfold hi_I
  (try dsimp only)
  refine ⟨⟨?_, ?_, ?_, ?_, ?_⟩, ?_, fun _ => hs, h4⟩
  · intro f hf i hi
    by_cases e : f = S.1
    · rw [e, nF, lF]; exact c1 i hi
    · rw [nO f e, lO f e]; exact hle f (by omega) i hi
  · intro f hf i hi
    by_cases e : f = S.1
    · rw [e, nF, lF, bF, c2 i (by omega)]
      exact ⟨fun k => k.2, fun k => ⟨hi, k⟩⟩
    · rw [nO f e, lO f e, bO f e]; exact hB f (by omega) i hi
  · intro f hf
    by_cases e : f = S.1
    · obtain ⟨a, b, c, ha, hb, hc, ea, eb, ec, nc⟩ := c3
      refine ⟨a, b, c, ha, hb, hc, ?_, ?_, ?_, nc⟩
      · rw [e, bF]; exact (c2 a (by omega)).mpr ⟨ha, ea⟩
      · rw [e, bF]; exact (c2 b (by omega)).mpr ⟨hb, eb⟩
      · rw [e, bF]; exact (c2 c (by omega)).mpr ⟨hc, ec⟩
    · obtain ⟨a, b, c, ha, hb, hc, fa, fb, fc, nc⟩ := hnc f (by omega)
      refine ⟨a, b, c, ha, hb, hc, ?_, ?_, ?_, nc⟩
      · rw [bO f e]; exact fa
      · rw [bO f e]; exact fb
      · rw [bO f e]; exact fc
  · intro f hf
    by_cases e : f = S.1
    · rw [e, nF, lF]; exact c4
    · rw [nO f e, lO f e]; exact hst f (by omega)
  · intro f g hf hg hfg
    have ext : ∀ f, f < S.1 → (∀ i, i < n → hi_B S.2.2.2.2.2.1 f i = bt mk i) → False := by
      intro f hf h
      refine kn' f hf (b_ext fun i hi => ?_)
      by_cases e : i < n
      · exact h i e
      · rw [hhi f hf i (by omega) hi, mkh i (by omega) hi]
    by_cases e : f = S.1
    · by_cases e2 : g = S.1
      · rw [e, e2]
      · refine absurd (ext g (by omega) fun i hi => ?_) id
        rw [e] at hfg
        rw [← bF i, ← bO g e2]; exact (hfg i hi).symm
    · by_cases e2 : g = S.1
      · refine absurd (ext f (by omega) fun i hi => ?_) id
        rw [e2] at hfg
        rw [← bF i, ← bO f e]; exact hfg i hi
      · exact hdis f g (by omega) (by omega) fun i hi => by rw [← bO f e, ← bO g e2]; exact hfg i hi
  · intro f hf i h1 h2
    by_cases e : f = S.1
    · rw [e, pk_us]; exact mkh i h1 h2
    · rw [pk_un e]; exact hhi f (by omega) i h1 h2
set_option maxHeartbeats 2000000 in
theorem hi_try {X Y Z : Nat → Int32} {n : Nat} (hn : n ≤ 14) (R : hi_rg X Y Z n) (a b c : Nat) (S : hp_T) (hab : a < b) (hbc : b < c) (hcn : c < n) (h : hi_I (hi_P X Y Z) n S) : hi_I (hi_P X Y Z) n (hp_try X Y Z n a b c S) := by
  have ha : a < n := by omega
  have hb : b < n := by omega
  have iT := hi_inT R ha hb hcn
  have iTd := hi_in_d iT (hi_60 (R a ha))
  have ab := hi_ab (n := n) R ha hb hcn
  have be := hi_be (n := n) R ha hb hcn
  have ms := fun i (hi : i < 32) => hi_ms hn R ha hb hcn (i := i) hi
  have hh : ∀ i, hi_h (hi_P X Y Z) a b c i = gv_d (hi_T (hi_P X Y Z) a b c) (hi_P X Y Z i) - gv_d (hi_T (hi_P X Y Z) a b c) (hi_P X Y Z a) := fun i => gv_ds _ _ _
  have tb : gv_d (hi_T (hi_P X Y Z) a b c) (hi_P X Y Z b) = gv_d (hi_T (hi_P X Y Z) a b c) (hi_P X Y Z a) := by
    have := gv_xl (gv_s (hi_P X Y Z b) (hi_P X Y Z a)) (gv_s (hi_P X Y Z c) (hi_P X Y Z a))
    rw [gv_ds] at this
    unfold hi_T
    omega
  have tc : gv_d (hi_T (hi_P X Y Z) a b c) (hi_P X Y Z c) = gv_d (hi_T (hi_P X Y Z) a b c) (hi_P X Y Z a) := by
    have := gv_xr (gv_s (hi_P X Y Z b) (hi_P X Y Z a)) (gv_s (hi_P X Y Z c) (hi_P X Y Z a))
    rw [gv_ds] at this
    unfold hi_T
    omega
  have so : ∀ i, i < n → hi_h (hi_P X Y Z) a b c i ≠ 0 → hf_so n (hi_P X Y Z) := fun i hi h0 => ⟨a, b, c, i, ha, hb, hcn, hi, h0⟩
  have nc : ∀ i, hi_h (hi_P X Y Z) a b c i ≠ 0 → hf_nc (hi_P X Y Z a) (hi_P X Y Z b) (hi_P X Y Z c) := fun i h0 => gv_ne h0
  have slI : hf_so n (hi_P X Y Z) → ∀ x, hi_I (hi_P X Y Z) n (hp_sl S x) := by
    intro hso x
    obtain ⟨h1, h2, h3, h4⟩ := h
    refine ⟨h1, h2, fun h0 => ?_, fun _ => hso⟩
    have := h3 h0
    simp only [hp_sl, this, Bool.true_or]
  have tx : (hp_nx X Y Z a b c).toInt = (hi_T (hi_P X Y Z) a b c).1 := by rw [hi_nx]; exact hi_toI (by have := iT.1; omega) (by have := iT.2.1; omega)
  have ty : (hp_ny X Y Z a b c).toInt = (hi_T (hi_P X Y Z) a b c).2.1 := by rw [hi_ny]; exact hi_toI (by have := iT.2.2.1; omega) (by have := iT.2.2.2.1; omega)
  have tz : (hp_nz X Y Z a b c).toInt = (hi_T (hi_P X Y Z) a b c).2.2 := by rw [hi_nz]; exact hi_toI (by have := iT.2.2.2.2.1; omega) (by have := iT.2.2.2.2.2; omega)
  have tl : (hp_lv X Y Z a b c).toInt = gv_d (hi_T (hi_P X Y Z) a b c) (hi_P X Y Z a) := by rw [hi_lv]; exact hi_toI (by omega) (by omega)
  have tx' : (- hp_nx X Y Z a b c).toInt = - (hi_T (hi_P X Y Z) a b c).1 := by rw [hi_nx, Int32.neg_ofInt]; exact hi_toI (by have := iT.2.1; omega) (by have := iT.1; omega)
  have ty' : (- hp_ny X Y Z a b c).toInt = - (hi_T (hi_P X Y Z) a b c).2.1 := by rw [hi_ny, Int32.neg_ofInt]; exact hi_toI (by have := iT.2.2.2.1; omega) (by have := iT.2.2.1; omega)
  have tz' : (- hp_nz X Y Z a b c).toInt = - (hi_T (hi_P X Y Z) a b c).2.2 := by rw [hi_nz, Int32.neg_ofInt]; exact hi_toI (by have := iT.2.2.2.2.2; omega) (by have := iT.2.2.2.2.1; omega)
  have tl' : (- hp_lv X Y Z a b c).toInt = - gv_d (hi_T (hi_P X Y Z) a b c) (hi_P X Y Z a) := by rw [hi_lv, Int32.neg_ofInt]; exact hi_toI (by omega) (by omega)
  unfold hp_try
  by_cases k1 : hp_be X Y Z a b c n = true ∧ ¬ hp_ab X Y Z a b c n = true
  · rw [if_pos k1]
    obtain ⟨i, hi, hlt⟩ := be.mp k1.1
    have nab : ∀ i, i < n → hi_h (hi_P X Y Z) a b c i ≤ 0 := fun i hi => Classical.byContradiction fun hn => k1.2 (ab.mpr ⟨i, hi, by omega⟩)
    refine hi_keep hn (slI (so i hi (by omega)) true) (by simp only [hp_sl, Bool.or_true]) (m := hi_T (hi_P X Y Z) a b c) (l := gv_d (hi_T (hi_P X Y Z) a b c) (hi_P X Y Z a)) ?_ tl ?_ ?_ ?_ ?_
    · rw [tx, ty, tz]
    · intro i hi
      have := nab i hi
      have := hh i
      omega
    · intro i hi
      rw [ms i hi, hh i]
      constructor
      · intro ⟨h1, h2⟩; exact ⟨h1, by omega⟩
      · intro ⟨h1, h2⟩; exact ⟨h1, by omega⟩
    · exact ⟨a, b, c, ha, hb, hcn, rfl, tb, tc, nc i (by omega)⟩
    · exact ⟨i, hi, by have := hh i; omega⟩
  · rw [if_neg k1]
    by_cases k2 : hp_ab X Y Z a b c n = true ∧ ¬ hp_be X Y Z a b c n = true
    · rw [if_pos k2]
      obtain ⟨i, hi, hlt⟩ := ab.mp k2.1
      have nbe : ∀ i, i < n → 0 ≤ hi_h (hi_P X Y Z) a b c i := fun i hi => Classical.byContradiction fun hn => k2.2 (be.mpr ⟨i, hi, by omega⟩)
      refine hi_keep hn (slI (so i hi (by omega)) true) (by simp only [hp_sl, Bool.or_true]) (m := gv_c (-1) (hi_T (hi_P X Y Z) a b c)) (l := - gv_d (hi_T (hi_P X Y Z) a b c) (hi_P X Y Z a)) ?_ tl' ?_ ?_ ?_ ?_
      · rw [tx', ty', tz']
        simp only [gv_c]
        exact Prod.ext (by (try dsimp only); omega) (Prod.ext (by (try dsimp only); omega) (by (try dsimp only); omega))
      · intro i hi
        have := nbe i hi
        have := hh i
        rw [gv_dcl]
        omega
      · intro i hi
        rw [ms i hi, hh i, gv_dcl]
        constructor
        · intro ⟨h1, h2⟩; exact ⟨h1, by omega⟩
        · intro ⟨h1, h2⟩; exact ⟨h1, by omega⟩
      · refine ⟨a, b, c, ha, hb, hcn, ?_, ?_, ?_, nc i (by omega)⟩
        · rw [gv_dcl]; omega
        · rw [gv_dcl]; omega
        · rw [gv_dcl]; omega
      · refine ⟨i, hi, ?_⟩
        have := hh i
        rw [gv_dcl]; omega
    · rw [if_neg k2]
      by_cases k3 : (hp_ab X Y Z a b c n || hp_be X Y Z a b c n) = true
      · refine slI ?_ _
        rw [Bool.or_eq_true] at k3
        rcases k3 with k3 | k3
        · obtain ⟨i, hi, hlt⟩ := ab.mp k3
          exact so i hi (by omega)
        · obtain ⟨i, hi, hlt⟩ := be.mp k3
          exact so i hi (by omega)
      · have k3' : (hp_ab X Y Z a b c n || hp_be X Y Z a b c n) = false := by
          cases hx : (hp_ab X Y Z a b c n || hp_be X Y Z a b c n) with
          | false => rfl
          | true => exact absurd hx k3
        rw [k3']
        have e : hp_sl S false = S := by simp only [hp_sl, Bool.or_false]
        rw [e]; exact h
