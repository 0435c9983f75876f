/-! the other side's readers -/
variable {post : Int32 → Prop} {rm so : Int32} {n F : Nat} {X Y Z A B C D M : Nat → Int32}
theorem wy_bit {f p : Nat} (hf : f < 364) (hp : p < 32) : ((M (nI f).toNatClampNeg >>> (nI p &&& 31)) &&& 1 = 1) ↔ hi_B M f p = true := by
  rw [nI_clamp (show f < 2 ^ 31 by omega)]
  exact bb_get (M f) hp
theorem wy_cntL {a b : Nat} (ha : a < 32) (hb : b < 32) (hF : F ≤ 24) (h : post (nI (he_w F (hi_B M) a b))) : ∀ d j, j + d = F → wY_together_5 post (nI a) (nI b) rm (nI n) so (nI F) X Y Z A B C D M (d + 1) (nI (hs_c (fun f => hi_B M f a && hi_B M f b) j)) (nI j) := by
  intro d
  induction d with
  | zero =>
    intro j hj
    have e : j = F := by omega
    rw [e]
    exact br_t (nI_le (Nat.le_refl F) (by omega)) h
  | succ d ih =>
    intro j hj
    have hj' : ¬ nI F ≤ nI j := nI_ge (by omega) (by omega)
    have i1 := ih (j + 1) (by omega)
    have vi : vp_in (nI j) 364 := vp_in_nI (by omega) (by omega)
    have ba := wy_bit (M := M) (f := j) (p := a) (by omega) ha
    have bb := wy_bit (M := M) (f := j) (p := b) (by omega) hb
    by_cases ea : hi_B M j a = true
    · by_cases eb : hi_B M j b = true
      · rw [hs_c_t (p := fun f => hi_B M f a && hi_B M f b) (he_and' ea eb)] at i1
        exact br_f hj' ⟨vi, br_t (ba.mpr ea) ⟨vi, br_t (bb.mpr eb) (nm_r (nI_1 _) (nm_r (nI_1 _) i1))⟩⟩
      · rw [hs_c_f (p := fun f => hi_B M f a && hi_B M f b) (fun k => eb (he_and k).2)] at i1
        exact br_f hj' ⟨vi, br_t (ba.mpr ea) ⟨vi, br_f (fun k => eb (bb.mp k)) (nm_r (nI_1 _) i1)⟩⟩
    · rw [hs_c_f (p := fun f => hi_B M f a && hi_B M f b) (fun k => ea (he_and k).1)] at i1
      exact br_f hj' ⟨vi, br_f (fun k => ea (ba.mp k)) (nm_r (nI_1 _) i1)⟩
theorem wy_cnt {a b : Nat} (ha : a < 32) (hb : b < 32) (hF : F ≤ 24) (h : post (nI (he_w F (hi_B M) a b))) : wpY_together post (rm, nI n, so, nI F, X, Y, Z, A, B, C, D, M) (nI a) (nI b) :=
  ⟨F + 1, wy_cntL ha hb hF h F 0 (by omega)⟩
theorem wy_cor1 {p : Nat} (hp : p < 32) (hF : F ≤ 24) (e : 3 ≤ he_w F (hi_B M) p p) (h : post 1) : wpY_isCorner post (rm, nI n, so, nI F, X, Y, Z, A, B, C, D, M) (nI p) :=
  wy_cnt (post := fun r_1 => (((r_1 < 3 → (post 0)) ∧ (¬ r_1 < 3 → (post 1))))) hp hp hF (br_f (nI_nlt (b := 3) e (by have := wx_wle F (hi_B M) p p; omega)) h)
theorem wy_cor0 {p : Nat} (hp : p < 32) (hF : F ≤ 24) (e : ¬ 3 ≤ he_w F (hi_B M) p p) (h : post 0) : wpY_isCorner post (rm, nI n, so, nI F, X, Y, Z, A, B, C, D, M) (nI p) :=
  wy_cnt (post := fun r_1 => (((r_1 < 3 → (post 0)) ∧ (¬ r_1 < 3 → (post 1))))) hp hp hF (br_t (nI_lt (b := 3) (by omega) (by omega)) h)
theorem wy_edg1 {a b : Nat} (ha : a < 32) (hb : b < 32) (hF : F ≤ 24) (e : he_e F (hi_B M) a b = true) (h : post 1) : wpY_isEdge post (rm, nI n, so, nI F, X, Y, Z, A, B, C, D, M) (nI a) (nI b) := by
  have e' := of_decide_eq_true e
  have hab : ¬ nI a = nI b := fun k => e'.1 ((nI_eq (by omega) (by omega)).mp k)
  refine br_f hab (wy_cor1 ha hF e'.2.1 (br_f (by decide) (wy_cor1 hb hF e'.2.2.1 (br_f (by decide) (wy_cnt ha hb hF (br_f (nI_nlt (b := 2) e'.2.2.2 ?_) h))))))
  have := wx_wle F (hi_B M) a b
  omega
theorem wy_edg0 {a b : Nat} (ha : a < 32) (hb : b < 32) (hF : F ≤ 24) (e : ¬ he_e F (hi_B M) a b = true) (h : post 0) : wpY_isEdge post (rm, nI n, so, nI F, X, Y, Z, A, B, C, D, M) (nI a) (nI b) := by
  by_cases hab : a = b
  · exact br_t (by rw [hab]) h
  · have hab' : ¬ nI a = nI b := fun k => hab ((nI_eq (by omega) (by omega)).mp k)
    by_cases ca : 3 ≤ he_w F (hi_B M) a a
    · by_cases cb : 3 ≤ he_w F (hi_B M) b b
      · have w : he_w F (hi_B M) a b < 2 := by
          apply Classical.byContradiction
          intro k
          exact e (decide_eq_true ⟨hab, ca, cb, by omega⟩)
        exact br_f hab' (wy_cor1 ha hF ca (br_f (by decide) (wy_cor1 hb hF cb (br_f (by decide) (wy_cnt ha hb hF (br_t (nI_lt (b := 2) w (by omega)) h))))))
      · exact br_f hab' (wy_cor1 ha hF ca (br_f (by decide) (wy_cor0 hb hF cb (br_t rfl h))))
    · exact br_f hab' (wy_cor0 ha hF ca (br_t rfl h))
theorem wy_wi1 {x k : Int32} (hx : ww_in x k) (h : post 1) : wpY_within post x k := br_f hx.1 (br_f hx.2 h)
theorem wy_wi0 {x k : Int32} (hn : ¬ ww_in x k) (h : post 0) : wpY_within post x k := by
  by_cases h1 : x < -k
  · exact br_t h1 h
  by_cases h2 : k < x
  · exact br_f h1 (br_t h2 h)
  exact absurd ⟨h1, h2⟩ hn
theorem wy_w3a {P Q : Prop} {x y z k : Int32} (hx : ww_in x k) (hy : ww_in y k) (hz : ww_in z k) (h : Q) :
    wpY_within (fun r_1 => (((r_1 = 0 → P) ∧ (¬ r_1 = 0 → (wpY_within (fun r_3 => (((r_3 = 0 → P) ∧ (¬ r_3 = 0 → (wpY_within (fun r_5 => (((r_5 = 0 → P) ∧ (¬ r_5 = 0 → Q)))) z k))))) y k))))) x k :=
  wy_wi1 hx (br_f (by decide) (wy_wi1 hy (br_f (by decide) (wy_wi1 hz (br_f (by decide) h)))))
theorem wy_w3b {P Q : Prop} {x y z k : Int32} (hn : ¬ (ww_in x k ∧ ww_in y k ∧ ww_in z k)) (h : P) :
    wpY_within (fun r_1 => (((r_1 = 0 → P) ∧ (¬ r_1 = 0 → (wpY_within (fun r_3 => (((r_3 = 0 → P) ∧ (¬ r_3 = 0 → (wpY_within (fun r_5 => (((r_5 = 0 → P) ∧ (¬ r_5 = 0 → Q)))) z k))))) y k))))) x k := by
  by_cases hx : ww_in x k
  · by_cases hy : ww_in y k
    · have hz : ¬ ww_in z k := fun hz => hn ⟨hx, hy, hz⟩
      exact wy_wi1 hx (br_f (by decide) (wy_wi1 hy (br_f (by decide) (wy_wi0 hz (br_t rfl h)))))
    · exact wy_wi1 hx (br_f (by decide) (wy_wi0 hy (br_t rfl h)))
  · exact wy_wi0 hx (br_t rfl h)
def wt_s (F : Nat) : Int32 := if 0 < F then 1 else 0
theorem wt_s1 {F : Nat} (h : 0 < F) : wt_s F = 1 := if_pos h
theorem wt_s0 {F : Nat} (h : F = 0) : wt_s F = 0 := if_neg (by omega)
theorem wy_rp0 {x y z : Int32} (hn : ¬ (ww_in x 200 ∧ ww_in y 200 ∧ ww_in z 200)) (h : post (-1)) : wpY_refusePlace post (rm, nI n, so, nI F, X, Y, Z, A, B, C, D, M) x y z := wy_w3b hn h
theorem wy_rp1 {x y z : Int32} (hx : ww_in x 200) (hy : ww_in y 200) (hz : ww_in z 200) (e : so = 0) (h : post (-5)) : wpY_refusePlace post (rm, nI n, so, nI F, X, Y, Z, A, B, C, D, M) x y z := wy_w3a hx hy hz (br_t e h)
theorem wy_rp2 {x y z : Int32} (hx : ww_in x 200) (hy : ww_in y 200) (hz : ww_in z 200) (e : so = 1) (h : post 0) : wpY_refusePlace post (rm, nI n, so, nI F, X, Y, Z, A, B, C, D, M) x y z := wy_w3a hx hy hz (br_f (by rw [e]; decide) h)
theorem wy_rq0 {x y : Int32} (hn : n ≤ 14) (hx : (∀ p, p < n → x ≠ nI p) ∨ (∀ p, p < n → y ≠ nI p)) (h : post (-6)) : wpY_refusePoints post (rm, nI n, so, nI F, X, Y, Z, A, B, C, D, M) x y := by
  by_cases h1 : x < 0
  · exact br_t h1 h
  obtain ⟨i, hi, rfl⟩ := nI_of h1
  by_cases h2 : nI n ≤ nI i
  · exact br_f h1 (br_t h2 h)
  have hin : i < n := Classical.byContradiction fun k => h2 (nI_le (by omega) hi)
  by_cases h3 : y < 0
  · exact br_f h1 (br_f h2 (br_t h3 h))
  obtain ⟨j, hj, rfl⟩ := nI_of h3
  rcases hx with hx | hx
  · exact absurd rfl (hx i hin)
  · have hjn : n ≤ j := Classical.byContradiction fun k => hx j (by omega) rfl
    exact br_f h1 (br_f h2 (br_f h3 (br_f (nI_nlt hjn hj) h)))
theorem wy_rq1 {a b : Nat} (hn : n ≤ 14) (ha : a < n) (hb : b < n) (e : so = 0) (h : post (-5)) : wpY_refusePoints post (rm, nI n, so, nI F, X, Y, Z, A, B, C, D, M) (nI a) (nI b) :=
  br_f (nI_pos (by omega)) (br_f (nI_ge ha (by omega)) (br_f (nI_pos (by omega)) (br_t (nI_lt hb (by omega)) (br_t e h))))
theorem wy_rq2 {a b : Nat} (hn : n ≤ 14) (ha : a < n) (hb : b < n) (e : so = 1) (h : post 0) : wpY_refusePoints post (rm, nI n, so, nI F, X, Y, Z, A, B, C, D, M) (nI a) (nI b) :=
  br_f (nI_pos (by omega)) (br_f (nI_ge ha (by omega)) (br_f (nI_pos (by omega)) (br_t (nI_lt hb (by omega)) (br_f (by rw [e]; decide) h))))
theorem wy_abv {f : Nat} (hf : f < 24) {x y z : Int32} (h : post (A f * x + B f * y + C f * z - D f)) : wpY_above post (rm, nI n, so, nI F, X, Y, Z, A, B, C, D, M) (nI f) x y z := by
  have k := vp_in_nI (show f < 364 by omega) (show 364 < 2 ^ 31 by omega)
  refine ⟨k, k, k, k, ?_⟩
  rw [nI_clamp (show f < 2 ^ 31 by omega)]
  exact h
