/-! the search for facet planes, as a pure fold over the triples -/
def hp_any (p : Nat → Bool) : Nat → Bool
  | 0 => false
  | k + 1 => hp_any p k || p k
theorem hp_any_t {p : Nat → Bool} : ∀ n, hp_any p n = true ↔ ∃ i, i < n ∧ p i = true := by
  intro n
  induction n with
  | zero => exact ⟨fun h => by simp [hp_any] at h, fun ⟨i, hi, _⟩ => absurd hi (Nat.not_lt_zero _)⟩
  | succ n ih =>
    simp only [hp_any, Bool.or_eq_true, ih]
    constructor
    · intro h
      rcases h with ⟨i, hi, hp⟩ | h
      · exact ⟨i, by omega, hp⟩
      · exact ⟨n, by omega, h⟩
    · intro ⟨i, hi, hp⟩
      by_cases e : i = n
      · right; rw [← e]; exact hp
      · left; exact ⟨i, by omega, hp⟩
def hp_mk (p : Nat → Bool) : Nat → Int32
  | 0 => 0
  | k + 1 => if p k = true then hp_mk p k ||| ((1 : Int32) <<< (nI k &&& 31)) else hp_mk p k
theorem hp_mk_bt {p : Nat → Bool} : ∀ k, k ≤ 32 → ∀ i, i < 32 → bt (hp_mk p k) i = (decide (i < k) && p i) := by
  intro k
  induction k with
  | zero =>
    intro _ i hi
    rw [hp_mk, b_0, decide_eq_false (by omega : ¬ i < 0)] <;> rfl
  | succ k ih =>
    intro hk i hi
    have h := ih (by omega) i hi
    by_cases e : p k = true
    · simp only [hp_mk]
      rw [if_pos e, b_or, h, bb_one (by omega) hi]
      by_cases e2 : i = k
      · subst e2
        rw [decide_eq_true (rfl : i = i), Bool.or_true, decide_eq_true (by omega : i < i + 1), e] <;> rfl
      · rw [decide_eq_false e2, Bool.or_false]
        by_cases e3 : i < k
        · rw [decide_eq_true e3, decide_eq_true (by omega : i < k + 1)]
        · rw [decide_eq_false e3, decide_eq_false (by omega : ¬ i < k + 1)]
    · simp only [hp_mk]
      rw [if_neg e, h]
      by_cases e2 : i = k
      · subst e2
        have : p i = false := by cases hpi : p i with
          | false => rfl
          | true => exact absurd hpi e
        rw [this, Bool.and_false, Bool.and_false]
      · by_cases e3 : i < k
        · rw [decide_eq_true e3, decide_eq_true (by omega : i < k + 1)]
        · rw [decide_eq_false e3, decide_eq_false (by omega : ¬ i < k + 1)]
def hp_nx (X Y Z : Nat → Int32) (a b c : Nat) : Int32 := (Y b - Y a) * (Z c - Z a) - (Z b - Z a) * (Y c - Y a)
def hp_ny (X Y Z : Nat → Int32) (a b c : Nat) : Int32 := (Z b - Z a) * (X c - X a) - (X b - X a) * (Z c - Z a)
def hp_nz (X Y Z : Nat → Int32) (a b c : Nat) : Int32 := (X b - X a) * (Y c - Y a) - (Y b - Y a) * (X c - X a)
def hp_lv (X Y Z : Nat → Int32) (a b c : Nat) : Int32 := hp_nx X Y Z a b c * X a + hp_ny X Y Z a b c * Y a + hp_nz X Y Z a b c * Z a
def hp_ht (X Y Z : Nat → Int32) (a b c p : Nat) : Int32 := hp_nx X Y Z a b c * X p + hp_ny X Y Z a b c * Y p + hp_nz X Y Z a b c * Z p - hp_lv X Y Z a b c
def hp_ab (X Y Z : Nat → Int32) (a b c n : Nat) : Bool := hp_any (fun p => decide (0 < hp_ht X Y Z a b c p)) n
def hp_be (X Y Z : Nat → Int32) (a b c n : Nat) : Bool := hp_any (fun p => decide (hp_ht X Y Z a b c p < 0)) n
def hp_ms (X Y Z : Nat → Int32) (a b c n : Nat) : Int32 := hp_mk (fun p => decide (hp_ht X Y Z a b c p = 0)) n
-- F, the normals, the levels, the members, solid
abbrev hp_T : Type := Nat × (Nat → Int32) × (Nat → Int32) × (Nat → Int32) × (Nat → Int32) × (Nat → Int32) × Bool
def hp_kn (M : Nat → Int32) (F : Nat) (k : Int32) : Bool := hp_any (fun f => decide (M f = k)) F
def hp_keep (S : hp_T) (nx ny nz lv mk : Int32) : hp_T :=
  if hp_kn S.2.2.2.2.2.1 S.1 mk = true then S else (S.1 + 1, upd S.2.1 S.1 nx, upd S.2.2.1 S.1 ny, upd S.2.2.2.1 S.1 nz, upd S.2.2.2.2.1 S.1 lv, upd S.2.2.2.2.2.1 S.1 mk, S.2.2.2.2.2.2)
def hp_sl (S : hp_T) (b : Bool) : hp_T := (S.1, S.2.1, S.2.2.1, S.2.2.2.1, S.2.2.2.2.1, S.2.2.2.2.2.1, S.2.2.2.2.2.2 || b)
def hp_try (X Y Z : Nat → Int32) (n a b c : Nat) (S : hp_T) : hp_T :=
  if hp_be X Y Z a b c n = true ∧ ¬ hp_ab X Y Z a b c n = true then
    hp_keep (hp_sl S true) (hp_nx X Y Z a b c) (hp_ny X Y Z a b c) (hp_nz X Y Z a b c) (hp_lv X Y Z a b c) (hp_ms X Y Z a b c n)
  else if hp_ab X Y Z a b c n = true ∧ ¬ hp_be X Y Z a b c n = true then
    hp_keep (hp_sl S true) (- hp_nx X Y Z a b c) (- hp_ny X Y Z a b c) (- hp_nz X Y Z a b c) (- hp_lv X Y Z a b c) (hp_ms X Y Z a b c n)
  else hp_sl S (hp_ab X Y Z a b c n || hp_be X Y Z a b c n)
def hp_fold (st : Nat → hp_T → hp_T) : Nat → Nat → hp_T → hp_T
  | 0, _, S => S
  | d + 1, j, S => hp_fold st d (j + 1) (st j S)
theorem hp_fold_inv {st : Nat → hp_T → hp_T} {I : hp_T → Prop} {lo hi : Nat} (h : ∀ j S, lo ≤ j → j < hi → I S → I (st j S)) : ∀ d j S, lo ≤ j → j + d ≤ hi → I S → I (hp_fold st d j S) := by
  intro d
  induction d with
  | zero => intro j S _ _ hS; exact hS
  | succ d ih => intro j S hl hj hS; exact ih (j + 1) _ (by omega) (by omega) (h j S hl (by omega) hS)
theorem hp_fold_est {st : Nat → hp_T → hp_T} {J : hp_T → Prop} {lo hi i : Nat} (hk : ∀ j S, lo ≤ j → j < hi → J S → J (st j S)) (he : ∀ S, J (st i S)) : ∀ d j S, lo ≤ j → j + d ≤ hi → j ≤ i → i < j + d → J (hp_fold st d j S) := by
  intro d
  induction d with
  | zero => intro j S _ _ h1 h2; exact absurd h2 (by omega)
  | succ d ih =>
    intro j S hl hj h1 h2
    by_cases e : i = j
    · subst e
      exact hp_fold_inv hk d (i + 1) _ (by omega) (by omega) (he S)
    · exact ih (j + 1) _ (by omega) (by omega) (by omega) (by omega)
def hp_c (X Y Z : Nat → Int32) (n a b : Nat) (S : hp_T) : hp_T := hp_fold (fun c S => hp_try X Y Z n a b c S) (n - (b + 1)) (b + 1) S
def hp_b (X Y Z : Nat → Int32) (n a : Nat) (S : hp_T) : hp_T := hp_fold (fun b S => hp_c X Y Z n a b S) (n - (a + 1)) (a + 1) S
def hp_a (X Y Z : Nat → Int32) (n : Nat) (S : hp_T) : hp_T := hp_fold (fun a S => hp_b X Y Z n a S) n 0 S
-- an invariant that every triple keeps
theorem hp_a_inv {X Y Z : Nat → Int32} {n : Nat} {I : hp_T → Prop} (h : ∀ a b c S, a < b → b < c → c < n → I S → I (hp_try X Y Z n a b c S)) (S : hp_T) (hS : I S) : I (hp_a X Y Z n S) := by
  refine hp_fold_inv (lo := 0) (hi := n) (fun a S _ ha hS => ?_) n 0 S (by omega) (by omega) hS
  refine hp_fold_inv (lo := a + 1) (hi := n) (fun b S hb hb2 hS => ?_) _ _ S (by omega) (by omega) hS
  exact hp_fold_inv (lo := b + 1) (hi := n) (fun c S hc hc2 hS => h a b c S (by omega) (by omega) hc2 hS) _ _ S (by omega) (by omega) hS
-- what one triple brings and every triple keeps
theorem hp_a_est {X Y Z : Nat → Int32} {n : Nat} {J : hp_T → Prop} (hk : ∀ a b c S, J S → J (hp_try X Y Z n a b c S)) {a b c : Nat} (hab : a < b) (hbc : b < c) (hc : c < n) (he : ∀ S, J (hp_try X Y Z n a b c S)) (S : hp_T) : J (hp_a X Y Z n S) := by
  have kc : ∀ a b S, b < n → J S → J (hp_c X Y Z n a b S) := fun a b S hb hS => hp_fold_inv (lo := b + 1) (hi := n) (fun c S _ _ hS => hk a b c S hS) _ _ S (by omega) (by omega) hS
  have kb : ∀ a S, a < n → J S → J (hp_b X Y Z n a S) := fun a S ha hS => hp_fold_inv (lo := a + 1) (hi := n) (fun b S _ hb hS => kc a b S hb hS) _ _ S (by omega) (by omega) hS
  refine hp_fold_est (lo := 0) (hi := n) (i := a) (fun j S _ hj hS => kb j S hj hS) (fun S => ?_) n 0 S (by omega) (by omega) (by omega) (by omega)
  refine hp_fold_est (lo := a + 1) (hi := n) (i := b) (fun j S _ hj hS => kc a j S hj hS) (fun S => ?_) _ _ S (by omega) (by omega) (by omega) (by omega)
  exact hp_fold_est (lo := b + 1) (hi := n) (i := c) (fun j S _ _ hS => hk a b j S hS) (fun S => he S) _ _ S (by omega) (by omega) (by omega) (by omega)
