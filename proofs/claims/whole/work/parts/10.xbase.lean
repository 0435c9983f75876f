/-! the component's readers -/
variable {post : Int32 → Prop} {rm : Int32} {n F : Nat} {X Y Z A B C D M : Nat → Int32}
theorem wx_in1 {f p : Nat} (hf : f < 24) (hp : p < 32) (e : hi_B M f p = true) (h : post 1) : wpX_isInFacet post (rm, nI n, nI F, X, Y, Z, A, B, C, D, M) (nI f) (nI p) := by
  refine ⟨vp_in_nI hf (by omega), ?_⟩
  rw [nI_clamp (show f < 2 ^ 31 by omega)]
  exact br_t ((bb_get (M f) hp).mpr e) h
theorem wx_in0 {f p : Nat} (hf : f < 24) (hp : p < 32) (e : ¬ hi_B M f p = true) (h : post 0) : wpX_isInFacet post (rm, nI n, nI F, X, Y, Z, A, B, C, D, M) (nI f) (nI p) := by
  refine ⟨vp_in_nI hf (by omega), ?_⟩
  rw [nI_clamp (show f < 2 ^ 31 by omega)]
  exact br_f (fun k => e ((bb_get (M f) hp).mp k)) h
theorem wx_cntL {a b : Nat} (ha : a < 32) (hb : b < 32) (hF : F ≤ 24) (h : post (nI (he_w F (hi_B M) a b))) : ∀ d j, j + d = F → wX_countFacetsWith_5 post (nI a) (nI b) rm (nI n) (nI F) X Y Z A B C D M (d + 1) (nI (hs_c (fun f => hi_B M f a && hi_B M f b) j)) (nI j) := by
  intro d
  induction d with
  | zero =>
    intro j hj
    have e : j = F := by omega
    rw [e]
    exact br_t (nI_le (Nat.le_refl F) (by omega)) h
  | succ d ih =>
    intro j hj
    have hj' : ¬ nI F ≤ nI j := nI_ge (by omega) (by omega)
    have i1 := ih (j + 1) (by omega)
    by_cases ea : hi_B M j a = true
    · by_cases eb : hi_B M j b = true
      · rw [hs_c_t (p := fun f => hi_B M f a && hi_B M f b) (he_and' ea eb)] at i1
        exact br_f hj' (wx_in1 (by omega) ha ea (br_f (by decide) (wx_in1 (by omega) hb eb (br_f (by decide) (nm_r (nI_1 _) (nm_r (nI_1 _) i1))))))
      · rw [hs_c_f (p := fun f => hi_B M f a && hi_B M f b) (fun k => eb (he_and k).2)] at i1
        exact br_f hj' (wx_in1 (by omega) ha ea (br_f (by decide) (wx_in0 (by omega) hb eb (br_t rfl (nm_r (nI_1 _) i1)))))
    · rw [hs_c_f (p := fun f => hi_B M f a && hi_B M f b) (fun k => ea (he_and k).1)] at i1
      exact br_f hj' (wx_in0 (by omega) ha ea (br_t rfl (nm_r (nI_1 _) i1)))
theorem wx_cnt {a b : Nat} (ha : a < 32) (hb : b < 32) (hF : F ≤ 24) (h : post (nI (he_w F (hi_B M) a b))) : wpX_countFacetsWith post (rm, nI n, nI F, X, Y, Z, A, B, C, D, M) (nI a) (nI b) :=
  ⟨F + 1, wx_cntL ha hb hF h F 0 (by omega)⟩
theorem wx_wle (F : Nat) (B : Nat → Nat → Bool) (a b : Nat) : he_w F B a b ≤ F := hs_c_le _ F
theorem wx_cor1 {p : Nat} (hp : p < 32) (hF : F ≤ 24) (e : 3 ≤ he_w F (hi_B M) p p) (h : post 1) : wpX_isCorner post (rm, nI n, nI F, X, Y, Z, A, B, C, D, M) (nI p) :=
  wx_cnt (post := fun r_1 => (((r_1 < 3 → (post 0)) ∧ (¬ r_1 < 3 → (post 1))))) hp hp hF (br_f (nI_nlt (b := 3) e (by have := wx_wle F (hi_B M) p p; omega)) h)
theorem wx_cor0 {p : Nat} (hp : p < 32) (hF : F ≤ 24) (e : ¬ 3 ≤ he_w F (hi_B M) p p) (h : post 0) : wpX_isCorner post (rm, nI n, nI F, X, Y, Z, A, B, C, D, M) (nI p) :=
  wx_cnt (post := fun r_1 => (((r_1 < 3 → (post 0)) ∧ (¬ r_1 < 3 → (post 1))))) hp hp hF (br_t (nI_lt (b := 3) (by omega) (by omega)) h)
theorem wx_edg1 {a b : Nat} (ha : a < 32) (hb : b < 32) (hF : F ≤ 24) (e : he_e F (hi_B M) a b = true) (h : post 1) : wpX_isEdge post (rm, nI n, nI F, X, Y, Z, A, B, C, D, M) (nI a) (nI b) := by
  have e' := of_decide_eq_true e
  have hab : ¬ nI a = nI b := fun k => e'.1 ((nI_eq (by omega) (by omega)).mp k)
  refine br_f hab (wx_cor1 ha hF e'.2.1 (br_f (by decide) (wx_cor1 hb hF e'.2.2.1 (br_f (by decide) (wx_cnt ha hb hF (br_f (nI_nlt (b := 2) e'.2.2.2 ?_) h))))))
  have := wx_wle F (hi_B M) a b
  omega
theorem wx_edg0 {a b : Nat} (ha : a < 32) (hb : b < 32) (hF : F ≤ 24) (e : ¬ he_e F (hi_B M) a b = true) (h : post 0) : wpX_isEdge post (rm, nI n, nI F, X, Y, Z, A, B, C, D, M) (nI a) (nI b) := by
  by_cases hab : a = b
  · exact br_t (by rw [hab]) h
  · have hab' : ¬ nI a = nI b := fun k => hab ((nI_eq (by omega) (by omega)).mp k)
    by_cases ca : 3 ≤ he_w F (hi_B M) a a
    · by_cases cb : 3 ≤ he_w F (hi_B M) b b
      · have w : he_w F (hi_B M) a b < 2 := by
          apply Classical.byContradiction
          intro k
          exact e (decide_eq_true ⟨hab, ca, cb, by omega⟩)
        exact br_f hab' (wx_cor1 ha hF ca (br_f (by decide) (wx_cor1 hb hF cb (br_f (by decide) (wx_cnt ha hb hF (br_t (nI_lt (b := 2) w (by omega)) h))))))
      · exact br_f hab' (wx_cor1 ha hF ca (br_f (by decide) (wx_cor0 hb hF cb (br_t rfl h))))
    · exact br_f hab' (wx_cor0 ha hF ca (br_t rfl h))
def ww_in (v k : Int32) : Prop := ¬ v < -k ∧ ¬ k < v
theorem wx_wi1 {x y z k : Int32} (hx : ww_in x k) (hy : ww_in y k) (hz : ww_in z k) (h : post 1) : wpX_isWithin post x y z k :=
  br_f hx.1 (br_f hx.2 (br_f hy.1 (br_f hy.2 (br_f hz.1 (br_f hz.2 h)))))
theorem wx_wi0 {x y z k : Int32} (hn : ¬ (ww_in x k ∧ ww_in y k ∧ ww_in z k)) (h : post 0) : wpX_isWithin post x y z k := by
  by_cases h1 : x < -k
  · exact br_t h1 h
  by_cases h2 : k < x
  · exact br_f h1 (br_t h2 h)
  by_cases h3 : y < -k
  · exact br_f h1 (br_f h2 (br_t h3 h))
  by_cases h4 : k < y
  · exact br_f h1 (br_f h2 (br_f h3 (br_t h4 h)))
  by_cases h5 : z < -k
  · exact br_f h1 (br_f h2 (br_f h3 (br_f h4 (br_t h5 h))))
  by_cases h6 : k < z
  · exact br_f h1 (br_f h2 (br_f h3 (br_f h4 (br_f h5 (br_t h6 h)))))
  exact absurd ⟨⟨h1, h2⟩, ⟨h3, h4⟩, ⟨h5, h6⟩⟩ hn
theorem wx_so1 (h0 : 0 < F) (hF : F ≤ 24) (h : post 1) : wpX_solid post (rm, nI n, nI F, X, Y, Z, A, B, C, D, M) := br_f (nI_nle h0 (by omega)) h
theorem wx_so0 (h0 : F = 0) (h : post 0) : wpX_solid post (rm, nI n, nI F, X, Y, Z, A, B, C, D, M) := by
  subst h0
  exact br_t (by decide) h
theorem wx_pt1 {p : Nat} (hp : p < n) (hn : n ≤ 14) (h : post 1) : wpX_isPoint post (rm, nI n, nI F, X, Y, Z, A, B, C, D, M) (nI p) :=
  br_f (nI_pos (by omega)) (br_f (nI_ge hp (by omega)) h)
theorem wx_pt0 {x : Int32} (hx : ∀ p, p < n → x ≠ nI p) (hn : n ≤ 14) (h : post 0) : wpX_isPoint post (rm, nI n, nI F, X, Y, Z, A, B, C, D, M) x := by
  by_cases h1 : x < 0
  · exact br_t h1 h
  · obtain ⟨j, hj, rfl⟩ := nI_of h1
    have : n ≤ j := Classical.byContradiction fun k => hx j (by omega) rfl
    exact br_f h1 (br_t (nI_le this hj) h)
theorem wx_hab {f : Nat} (hf : f < 24) {x y z : Int32} (h : post (A f * x + B f * y + C f * z - D f)) : wpX_heightAbove post (rm, nI n, nI F, X, Y, Z, A, B, C, D, M) (nI f) x y z := by
  have k := vp_in_nI hf (show 24 < 2 ^ 31 by omega)
  refine ⟨k, k, k, k, ?_⟩
  rw [nI_clamp (show f < 2 ^ 31 by omega)]
  exact h
