/-! corners and edges -/
def he_w (F : Nat) (B : Nat → Nat → Bool) (a b : Nat) : Nat := hs_c (fun f => B f a && B f b) F
theorem he_w_comm (F : Nat) (B : Nat → Nat → Bool) (a b : Nat) : he_w F B a b = he_w F B b a :=
  hs_c_congr F fun f _ => Bool.and_comm _ _
theorem he_and {x y : Bool} (h : (x && y) = true) : x = true ∧ y = true := by simpa using h
theorem he_and' {x y : Bool} (h : x = true) (h2 : y = true) : (x && y) = true := by rw [h, h2] <;> rfl
-- a facet plane holds a point off any line of two of its points
theorem he_off {n F : Nat} {P N : Nat → gv_V} {L : Nat → Int} {B : Nat → Nat → Bool} (H : hf_FL n P F N L B) {f : Nat} (hf : f < F) {i j : Nat} (ij : P i ≠ P j) : ∃ x, x < n ∧ B f x = true ∧ hf_nc (P i) (P j) (P x) := by
  obtain ⟨hle, hB, hnc, hst, hdis⟩ := H
  obtain ⟨a, b, c, ha, hb, hc, fa, fb, fc, nc⟩ := hnc f hf
  apply Classical.byContradiction
  intro hn
  have z : ∀ x, x < n → B f x = true → ∀ q, gv_d (gv_x (gv_s (P j) (P i)) (gv_s (P x) (P i))) q = 0 := by
    intro x hx fx q
    refine gv_z ?_ q
    apply Classical.byContradiction
    intro h
    exact hn ⟨x, hx, fx, h⟩
  have za := z a ha fa
  have zb := z b hb fb
  have zc := z c hc fc
  have sp : ∀ x q : gv_V, gv_d (gv_x (gv_s (P j) (P i)) (gv_s x (P a))) q = gv_d (gv_x (gv_s (P j) (P i)) (gv_s x (P i))) q - gv_d (gv_x (gv_s (P j) (P i)) (gv_s (P a) (P i))) q := by
    intro x q
    simp only [gv_d, gv_x, gv_s]; grobner
  have pb : ∀ q, gv_d (gv_x (gv_s (P j) (P i)) (gv_s (P b) (P a))) q = 0 := fun q => by rw [sp, zb, za] <;> rfl
  have pc : ∀ q, gv_d (gv_x (gv_s (P j) (P i)) (gv_s (P c) (P a))) q = 0 := fun q => by rw [sp, zc, za] <;> rfl
  have e : ∀ u p r q : gv_V, gv_d u u * gv_d (gv_x p r) q = gv_d u p * gv_d (gv_x u r) q - gv_d (gv_x u p) (gv_x (gv_x r q) u) := by
    intro u p r q
    simp only [gv_d, gv_x]; grobner
  have e1 := e (gv_s (P j) (P i)) (gv_s (P b) (P a)) (gv_s (P c) (P a)) (gv_x (gv_s (P b) (P a)) (gv_s (P c) (P a)))
  rw [pb, pc, Int.mul_zero, Int.sub_self] at e1
  rcases Int.mul_eq_zero.mp e1 with h | h
  · exact hf_sub0 ij h
  · exact nc h
-- at most two facet planes hold two different points
set_option maxHeartbeats 2000000 in
theorem he_l3 {n F : Nat} {P N : Nat → gv_V} {L : Nat → Int} {B : Nat → Nat → Bool} (H : hf_FL n P F N L B) {f g h : Nat} (hf : f < F) (hg : g < F) (hh : h < F) (fg : f ≠ g) (fh : f ≠ h) (gh : g ≠ h) {i j : Nat} (hi : i < n) (hj : j < n) (ij : P i ≠ P j)
    (fi : B f i = true) (fj : B f j = true) (gi : B g i = true) (gj : B g j = true) (hi' : B h i = true) (hj' : B h j = true) : False := by
  obtain ⟨hle, hB, hnc, hst, hdis⟩ := id H
  obtain ⟨x, hx, fx, ncx⟩ := he_off H hf (i := i) (j := j) ij
  obtain ⟨y, hy, gy, ncy⟩ := he_off H hg (i := i) (j := j) ij
  obtain ⟨z, hz, hz', ncz⟩ := he_off H hh (i := i) (j := j) ij
  have u0 := hf_sub0 ij
  have up : 0 < gv_d (gv_s (P j) (P i)) (gv_s (P j) (P i)) := by have := gv_nn (gv_s (P j) (P i)); omega
  have ax : ∀ f, f < F → B f i = true → B f j = true → gv_d (N f) (gv_s (P j) (P i)) = 0 := by
    intro f hf fi fj
    rw [gv_ds, (hB f hf i hi).mp fi, (hB f hf j hj).mp fj, Int.sub_self]
  have lt : ∀ f g x, f < F → g < F → f ≠ g → x < n → B f i = true → B f j = true → B f x = true → B g i = true → B g j = true → hf_nc (P i) (P j) (P x) → gv_d (N g) (gv_s (P x) (P i)) < 0 := by
    intro f g x hf hg fg hx fi fj fx gi gj nc
    have h1 := hle g hg x hx
    have h2 := (hB g hg i hi).mp gi
    have h3 : gv_d (N g) (P x) ≠ L g := fun h => fg (hf_same H hf hg hi hj hx fi fj fx gi gj ((hB g hg x hx).mpr h) nc)
    rw [gv_ds]; omega
  have eq0 : ∀ f x, f < F → x < n → B f i = true → B f x = true → gv_d (N f) (gv_s (P x) (P i)) = 0 := by
    intro f x hf hx fi fx
    rw [gv_ds, (hB f hf i hi).mp fi, (hB f hf x hx).mp fx, Int.sub_self]
  have pd : ∀ m x : gv_V, gv_d m (gv_s (gv_c (gv_d (gv_s (P j) (P i)) (gv_s (P j) (P i))) x) (gv_c (gv_d (gv_s (P j) (P i)) x) (gv_s (P j) (P i)))) = gv_d (gv_s (P j) (P i)) (gv_s (P j) (P i)) * gv_d m x - gv_d (gv_s (P j) (P i)) x * gv_d m (gv_s (P j) (P i)) := by
    intro m x
    rw [gv_ds, gv_dcr, gv_dcr]
  have pz : ∀ f x, f < F → x < n → B f i = true → B f j = true → B f x = true → gv_d (N f) (gv_s (gv_c (gv_d (gv_s (P j) (P i)) (gv_s (P j) (P i))) (gv_s (P x) (P i))) (gv_c (gv_d (gv_s (P j) (P i)) (gv_s (P x) (P i))) (gv_s (P j) (P i)))) = 0 := by
    intro f x hf hx fi fj fx
    rw [pd, ax f hf fi fj, eq0 f x hf hx fi fx, Int.mul_zero, Int.mul_zero, Int.sub_self]
  have pl : ∀ f g x, f < F → g < F → f ≠ g → x < n → B f i = true → B f j = true → B f x = true → B g i = true → B g j = true → hf_nc (P i) (P j) (P x) → gv_d (N g) (gv_s (gv_c (gv_d (gv_s (P j) (P i)) (gv_s (P j) (P i))) (gv_s (P x) (P i))) (gv_c (gv_d (gv_s (P j) (P i)) (gv_s (P x) (P i))) (gv_s (P j) (P i)))) < 0 := by
    intro f g x hf hg fg hx fi fj fx gi gj nc
    rw [pd, ax g hg gi gj, Int.mul_zero, Int.sub_zero]
    exact Int.mul_neg_of_pos_of_neg up (lt f g x hf hg fg hx fi fj fx gi gj nc)
  have pu : ∀ x : gv_V, gv_d (gv_s (P j) (P i)) (gv_s (gv_c (gv_d (gv_s (P j) (P i)) (gv_s (P j) (P i))) x) (gv_c (gv_d (gv_s (P j) (P i)) x) (gv_s (P j) (P i)))) = 0 := by
    intro x
    rw [pd, Int.mul_comm, Int.sub_self]
  exact gv_tri (N f) (N g) (N h) (gv_s (P j) (P i)) _ _ _ (gv_s (P j) (P i))
    (pz f x hf hx fi fj fx) (pu _) (pl f g x hf hg fg hx fi fj fx gi gj ncx) (pl f h x hf hh fh hx fi fj fx hi' hj' ncx)
    (pz g y hg hy gi gj gy) (pu _) (pl g f y hg hf (Ne.symm fg) hy gi gj gy fi fj ncy) (pl g h y hg hh gh hy gi gj gy hi' hj' ncy)
    (pz h z hh hz hi' hj' hz') (pu _) (pl h f z hh hf (Ne.symm fh) hz hi' hj' hz' fi fj ncz) (pl h g z hh hg (Ne.symm gh) hz hi' hj' hz' gi gj ncz)
    (ax f hf fi fj) u0
-- a corner of a facet: a functional below nothing on all other points of the facet
theorem he_psi {n F : Nat} {P N : Nat → gv_V} {L : Nat → Int} {B : Nat → Nat → Bool} (H : hf_FL n P F N L B) (dist : ∀ i j, i < n → j < n → i ≠ j → P i ≠ P j) {f v : Nat} (hf : f < F) (hv : v < n) (fv : B f v = true) (cv : 3 ≤ he_w F B v v) :
    ∃ p : gv_V, ∀ q, q < n → B f q = true → q ≠ v → gv_d p (gv_s (P q) (P v)) < 0 := by
  obtain ⟨hle, hB, hnc, hst, hdis⟩ := id H
  obtain ⟨g, h, hg, hh, pg, ph, gf, hf', gh⟩ := hs_c3_two cv f
  have gv := (he_and pg).1
  have hv' := (he_and ph).1
  refine ⟨gv_a (N g) (N h), fun q hq fq qv => ?_⟩
  have e1 := (hB g hg v hv).mp gv
  have e2 := (hB h hh v hv).mp hv'
  have l1 := hle g hg q hq
  have l2 := hle h hh q hq
  rw [gv_dal, gv_ds, gv_ds]
  apply Classical.byContradiction
  intro hn
  exact he_l3 H hf hg hh (Ne.symm gf) (Ne.symm hf') gh hv hq (dist v q hv hq (Ne.symm qv)) fv fq gv ((hB g hg q hq).mpr (by omega)) hv' ((hB h hh q hq).mpr (by omega))
theorem he_selfx (M a p : gv_V) : gv_d M (gv_x a (gv_s p p)) = 0 := by simp only [gv_d, gv_x, gv_s]; grobner
-- the next corner of a facet, on one side of a corner
set_option maxHeartbeats 2000000 in
theorem he_ex {n F : Nat} {P N : Nat → gv_V} {L : Nat → Int} {B : Nat → Nat → Bool} (H : hf_FL n P F N L B) (C : hf_CP n P F B) (dist : ∀ i j, i < n → j < n → i ≠ j → P i ≠ P j) {f v : Nat} (hf : f < F) (hv : v < n) (fv : B f v = true) (cv : 3 ≤ he_w F B v v)
    (M : gv_V) (hM : ∀ r, r < n → B f r = true → gv_d M (gv_s (P r) (P v)) = 0) (M0 : gv_d M M ≠ 0) :
    ∃ b, b < n ∧ b ≠ v ∧ B f b = true ∧ 3 ≤ he_w F B b b ∧ 2 ≤ he_w F B v b ∧ ∀ r, r < n → B f r = true → 0 ≤ gv_d M (gv_x (gv_s (P b) (P v)) (gv_s (P r) (P v))) := by
  obtain ⟨hle, hB, hnc, hst, hdis⟩ := id H
  obtain ⟨p, hp⟩ := he_psi H dist hf hv fv cv
  have so := hf_so_of H (by omega : 0 < F)
  have ne : ∃ i, i < n ∧ (i < n ∧ i ≠ v ∧ B f i = true) := by
    obtain ⟨a, b, c, ha, hb, hc, fa, fb, fc, nc⟩ := hnc f hf
    by_cases e : a = v
    · refine ⟨b, hb, hb, fun e2 => ?_, fb⟩
      exact hf_nc_ne nc (by rw [e, e2])
    · exact ⟨a, ha, ha, e, fa⟩
  obtain ⟨b, hb, ⟨_, bv, fb⟩, hmx⟩ := hr_max (fun i => i < n ∧ i ≠ v ∧ B f i = true)
    (fun b r => 0 < gv_d M (gv_x (gv_s (P b) (P v)) (gv_s (P r) (P v))) ∨ (gv_d M (gv_x (gv_s (P b) (P v)) (gv_s (P r) (P v))) = 0 ∧ gv_d p (gv_s (P b) (P v)) ≤ gv_d p (gv_s (P r) (P v))))
    (fun a b _ _ => by
      (try dsimp only)
      rw [gv_antr M (gv_s (P b) (P v)) (gv_s (P a) (P v))]
      omega)
    (fun a b c sa sb sc h1 h2 => by
      (try dsimp only at *)
      have pa := hp a sa.1 sa.2.2 sa.2.1
      have pb := hp b sb.1 sb.2.2 sb.2.1
      have pc := hp c sc.1 sc.2.2 sc.2.1
      have e := gv_2d M p (gv_s (P a) (P v)) (gv_s (P b) (P v)) (gv_s (P c) (P v)) M0 (hM a sa.1 sa.2.2) (hM b sb.1 sb.2.2) (hM c sc.1 sc.2.2)
      generalize gv_d M (gv_x (gv_s (P a) (P v)) (gv_s (P c) (P v))) = ac at *
      generalize gv_d M (gv_x (gv_s (P a) (P v)) (gv_s (P b) (P v))) = ab at *
      generalize gv_d M (gv_x (gv_s (P b) (P v)) (gv_s (P c) (P v))) = bc at *
      generalize gv_d p (gv_s (P a) (P v)) = xa at *
      generalize gv_d p (gv_s (P b) (P v)) = xb at *
      generalize gv_d p (gv_s (P c) (P v)) = xc at *
      have g1 : 0 ≤ ab := by omega
      have g2 : 0 ≤ bc := by omega
      rcases h1 with h1 | h1
      · left
        have t1 := Int.mul_neg_of_neg_of_pos pc h1
        have t2 := Int.mul_nonpos_of_nonpos_of_nonneg (Int.le_of_lt pa) g2
        have t3 : xb * ac < 0 := by omega
        exact Classical.byContradiction fun hn => by
          have := Int.mul_nonneg_of_nonpos_of_nonpos (Int.le_of_lt pb) (show ac ≤ 0 by omega)
          omega
      · rcases h2 with h2 | h2
        · left
          have t1 := Int.mul_neg_of_neg_of_pos pa h2
          have t2 := Int.mul_nonpos_of_nonpos_of_nonneg (Int.le_of_lt pc) g1
          have t3 : xb * ac < 0 := by omega
          exact Classical.byContradiction fun hn => by
            have := Int.mul_nonneg_of_nonpos_of_nonpos (Int.le_of_lt pb) (show ac ≤ 0 by omega)
            omega
        · right
          rw [h1.1, h2.1, Int.mul_zero, Int.mul_zero] at e
          rcases Int.mul_eq_zero.mp (e.trans (by rfl : (0 : Int) + 0 = 0)) with h | h
          · omega
          · exact ⟨h, by omega⟩)
    n ne
  (try dsimp only at hmx)
  have hD : ∀ r, r < n → B f r = true → 0 ≤ gv_d M (gv_x (gv_s (P b) (P v)) (gv_s (P r) (P v))) := by
    intro r hr fr
    by_cases e : r = v
    · rw [e, he_selfx]; exact Int.le_refl _
    · have := hmx r hr ⟨hr, e, fr⟩; omega
  have pbn := hp b hb fb bv
  have Pvb : P v ≠ P b := dist v b hv hb (Ne.symm bv)
  obtain ⟨x, hx, fx, ncx⟩ := he_off H hf (i := v) (j := b) Pvb
  have Dx : 0 < gv_d M (gv_x (gv_s (P b) (P v)) (gv_s (P x) (P v))) := by
    have h1 := hD x hx fx
    have h2 : gv_d M (gv_x (gv_s (P b) (P v)) (gv_s (P x) (P v))) ≠ 0 := fun h => ncx (gv_flat M _ _ M0 (hM b hb fb) (hM x hx fx) h)
    omega
  have ev := (hB f hf v hv).mp fv
  have eb := (hB f hf b hb).mp fb
  have ex := (hB f hf x hx).mp fx
  obtain ⟨K, K0, hK⟩ := hs_bd (fun r => - gv_d M (gv_x (gv_s (P b) (P v)) (gv_s (P r) (P v)))) n
  have md : ∀ q : gv_V, gv_d (gv_s (gv_c K (N f)) (gv_x M (gv_s (P b) (P v)))) q = K * gv_d (N f) q - gv_d M (gv_x (gv_s (P b) (P v)) q) := by
    intro q
    rw [gv_dsl, gv_dcl, gv_cyc]
  obtain ⟨q, w, hq, wb, wq, ncq, hw, wx⟩ := hr_rot n (fun i => gv_s (P i) (P v)) (gv_s (gv_c K (N f)) (gv_x M (gv_s (P b) (P v)))) (gv_s (P b) (P v)) x (hf_sub0 Pvb)
    (by
      rw [md, gv_ds, ev, eb, Int.sub_self, Int.mul_zero, gv_cyc, gv_xr] <;> rfl)
    (fun i hi => by
      (try dsimp only)
      rw [md]
      have k1 := hK i hi
      (try dsimp only at k1)
      by_cases fi : B f i = true
      · have k2 := hD i hi fi
        have ei := (hB f hf i hi).mp fi
        rw [gv_ds (N f), ev, ei, Int.sub_self, Int.mul_zero]
        omega
      · have k3 := hle f hf i hi
        have k4 : gv_d (N f) (P i) ≠ L f := fun h => fi ((hB f hf i hi).mpr h)
        have k5 := Int.mul_le_mul_of_nonneg_left (show gv_d (N f) (gv_s (P i) (P v)) ≤ -1 by rw [gv_ds]; omega) K0
        omega)
    hx
    (by
      (try dsimp only)
      rw [md, gv_ds (N f), ev, ex, Int.sub_self, Int.mul_zero]
      omega)
    (fun w hw => hf_so_use so (P v) w hw)
  (try dsimp only at *)
  rw [gv_ds] at wb wq wx
  have hw' : ∀ i, i < n → gv_d w (P i) ≤ gv_d w (P v) := by
    intro i hi
    have := hw i hi
    rw [gv_ds] at this
    omega
  obtain ⟨g, hg, gB⟩ := C w (gv_d w (P v)) hw' ⟨x, hx, by omega⟩ v b q hv hb hq rfl (by omega) (by omega) ncq
  have gv := (gB v hv).mpr rfl
  have gb := (gB b hb).mpr (by omega)
  have fg : f ≠ g := by
    intro e
    have := (gB x hx).mp (by rw [← e]; exact fx)
    omega
  obtain ⟨K2, K20, hK2⟩ := hs_bd (fun r => - gv_d p (gv_s (P r) (P b))) n
  have md2 : ∀ q : gv_V, gv_d (gv_s (gv_c K2 (gv_a (N f) w)) p) q = K2 * (gv_d (N f) q + gv_d w q) - gv_d p q := by
    intro q
    rw [gv_dsl, gv_dcl, gv_dal]
  have pv : gv_d p (gv_s (P v) (P b)) = - gv_d p (gv_s (P b) (P v)) := by rw [gv_ds, gv_ds]; omega
  obtain ⟨q3, r3, w3, hq3, hr3, w3q, w3r, nc3, hw3, w3v⟩ := hr_dr n (fun i => gv_s (P i) (P b)) (gv_s (gv_c K2 (gv_a (N f) w)) p) v
    (fun i hi => by
      (try dsimp only)
      rw [md2]
      have k1 := hK2 i hi
      (try dsimp only at k1)
      have k2 := hle f hf i hi
      have k3 := hw' i hi
      by_cases z : gv_d (N f) (gv_s (P i) (P b)) + gv_d w (gv_s (P i) (P b)) = 0
      · rw [z, Int.mul_zero]
        rw [gv_ds, gv_ds] at z
        have fi : B f i = true := (hB f hf i hi).mpr (by omega)
        have gi : B g i = true := (gB i hi).mpr (by omega)
        by_cases e : i = v
        · rw [e, pv]; omega
        · have hc : gv_d (gv_x (gv_s (P b) (P v)) (gv_s (P i) (P v))) (gv_x (gv_s (P b) (P v)) (gv_s (P i) (P v))) = 0 :=
            Classical.byContradiction fun h => fg (hf_same H hf hg hv hb hi fv fb fi gv gb gi h)
          have h0 : gv_d M (gv_x (gv_s (P b) (P v)) (gv_s (P i) (P v))) = 0 := by rw [gv_comm]; exact gv_z hc M
          have h1 := hmx i hi ⟨hi, e, fi⟩
          have h2 : gv_d p (gv_s (P i) (P b)) = gv_d p (gv_s (P i) (P v)) - gv_d p (gv_s (P b) (P v)) := by rw [gv_ds, gv_ds, gv_ds]; omega
          omega
      · have z2 : gv_d (N f) (gv_s (P i) (P b)) + gv_d w (gv_s (P i) (P b)) ≤ -1 := by
          rw [gv_ds, gv_ds] at z ⊢
          omega
        have k5 := Int.mul_le_mul_of_nonneg_left z2 K20
        omega)
    hv
    (by
      (try dsimp only)
      have z : gv_d (N f) (gv_s (P v) (P b)) + gv_d w (gv_s (P v) (P b)) = 0 := by rw [gv_ds, gv_ds]; omega
      rw [md2, z, Int.mul_zero, pv]
      omega)
    (fun w hw => hf_so_use so (P b) w hw)
  (try dsimp only at *)
  rw [gv_ds] at w3q w3r w3v
  obtain ⟨h, hh, hB3⟩ := C w3 (gv_d w3 (P b)) (fun i hi => by
      have := hw3 i hi
      rw [gv_ds] at this
      omega) ⟨v, hv, by omega⟩ b q3 r3 hb hq3 hr3 rfl (by omega) (by omega) nc3
  have hb3 := (hB3 b hb).mpr rfl
  have hv3 : ¬ B h v = true := fun e => by have := (hB3 v hv).mp e; omega
  have fh : f ≠ h := fun e => hv3 (by rw [← e]; exact fv)
  have gh : g ≠ h := fun e => hv3 (by rw [← e]; exact gv)
  exact ⟨b, hb, bv, fb, hs_c3_in hf hg hh (he_and' fb fb) (he_and' gb gb) (he_and' hb3 hb3) fg fh gh, hs_c2_in hf hg (he_and' fv fb) (he_and' gv gb) fg, hD⟩
-- a corner between a corner and another point of one ray: no
theorem he_btw {n F : Nat} {P N : Nat → gv_V} {L : Nat → Int} {B : Nat → Nat → Bool} (H : hf_FL n P F N L B) {v b c : Nat} (hv : v < n) (hb : b < n) (hc : c < n) (vb : P v ≠ P b) (cb : 3 ≤ he_w F B b b) (p : gv_V)
    (pb : gv_d p (gv_s (P b) (P v)) < 0) (pc : gv_d p (gv_s (P c) (P v)) < gv_d p (gv_s (P b) (P v)))
    (col : ∀ q, gv_d p (gv_s (P c) (P v)) * gv_d q (gv_s (P b) (P v)) = gv_d p (gv_s (P b) (P v)) * gv_d q (gv_s (P c) (P v))) : False := by
  obtain ⟨hle, hB, hnc, hst, hdis⟩ := id H
  obtain ⟨f, g, h, hf, hg, hh, pf, pg, ph, fg, fh, gh⟩ := hs_c3_out cb
  have hv' : ∀ f, f < F → (B f b && B f b) = true → B f v = true := by
    intro f hf pf
    have e := (hB f hf b hb).mp (he_and pf).1
    have l1 := hle f hf v hv
    have l2 := hle f hf c hc
    have cq := col (N f)
    have y : gv_d (N f) (gv_s (P b) (P v)) ≤ 0 := by
      apply Classical.byContradiction
      intro hn
      have t1 := Int.mul_le_mul_of_nonpos_left (Int.le_of_lt pb) (show gv_d (N f) (gv_s (P c) (P v)) ≤ gv_d (N f) (gv_s (P b) (P v)) by rw [gv_ds, gv_ds]; omega)
      have t2 := Int.mul_lt_mul_of_pos_right pc (show 0 < gv_d (N f) (gv_s (P b) (P v)) by omega)
      omega
    rw [gv_ds] at y
    exact (hB f hf v hv).mpr (by omega)
  exact he_l3 H hf hg hh fg fh gh hv hb vb (hv' f hf pf) (he_and pf).1 (hv' g hg pg) (he_and pg).1 (hv' h hh ph) (he_and ph).1
set_option maxHeartbeats 2000000 in
theorem he_un {n F : Nat} {P N : Nat → gv_V} {L : Nat → Int} {B : Nat → Nat → Bool} (H : hf_FL n P F N L B) (dist : ∀ i j, i < n → j < n → i ≠ j → P i ≠ P j) {f v : Nat} (hf : f < F) (hv : v < n) (fv : B f v = true) (cv : 3 ≤ he_w F B v v)
    (M : gv_V) (hM : ∀ r, r < n → B f r = true → gv_d M (gv_s (P r) (P v)) = 0) (M0 : gv_d M M ≠ 0) {b c : Nat} (hb : b < n) (hc : c < n) (bv : b ≠ v) (cv' : c ≠ v) (fb : B f b = true) (fc : B f c = true) (cb : 3 ≤ he_w F B b b) (cc : 3 ≤ he_w F B c c)
    (h1 : 0 ≤ gv_d M (gv_x (gv_s (P b) (P v)) (gv_s (P c) (P v)))) (h2 : 0 ≤ gv_d M (gv_x (gv_s (P c) (P v)) (gv_s (P b) (P v)))) : b = c := by
  obtain ⟨p, hp⟩ := he_psi H dist hf hv fv cv
  have pb := hp b hb fb bv
  have pc := hp c hc fc cv'
  rw [gv_antr] at h2
  have z := gv_flat M _ _ M0 (hM b hb fb) (hM c hc fc) (by omega : gv_d M (gv_x (gv_s (P b) (P v)) (gv_s (P c) (P v))) = 0)
  have col : ∀ q, gv_d p (gv_s (P c) (P v)) * gv_d q (gv_s (P b) (P v)) = gv_d p (gv_s (P b) (P v)) * gv_d q (gv_s (P c) (P v)) := by
    intro q
    have e := gv_z z (gv_x q p)
    rw [gv_bc] at e
    rw [gv_comm p, gv_comm p, gv_comm q, gv_comm q]
    have e1 := Int.mul_comm (gv_d (gv_s (P c) (P v)) p) (gv_d (gv_s (P b) (P v)) q)
    have e2 := Int.mul_comm (gv_d (gv_s (P c) (P v)) q) (gv_d (gv_s (P b) (P v)) p)
    omega
  apply Classical.byContradiction
  intro hbc
  rcases Int.lt_trichotomy (gv_d p (gv_s (P c) (P v))) (gv_d p (gv_s (P b) (P v))) with h | h | h
  · exact he_btw H hv hb hc (dist v b hv hb (Ne.symm bv)) cb p pb h col
  · apply dist b c hb hc hbc
    have k : ∀ q, gv_d q (gv_s (P b) (P v)) = gv_d q (gv_s (P c) (P v)) := by
      intro q
      have e := col q
      rw [h] at e
      exact Int.eq_of_mul_eq_mul_left (by omega) e
    have k1 := k (1, 0, 0)
    have k2 := k (0, 1, 0)
    have k3 := k (0, 0, 1)
    simp only [gv_d, gv_s] at k1 k2 k3
    exact Prod.ext (by omega) (Prod.ext (by omega) (by omega))
  · exact he_btw H hv hc hb (dist v c hv hc (Ne.symm cv')) cc p pc h fun q => (col q).symm
-- all points of a facet are on one side of an edge
set_option maxHeartbeats 2000000 in
theorem he_side {n F : Nat} {P N : Nat → gv_V} {L : Nat → Int} {B : Nat → Nat → Bool} (H : hf_FL n P F N L B) {f a b : Nat} (hf : f < F) (ha : a < n) (hb : b < n) (ab : P a ≠ P b) (fa : B f a = true) (fb : B f b = true) (w : 2 ≤ he_w F B a b) :
    (∃ x, x < n ∧ B f x = true ∧ gv_d (N f) (gv_x (gv_s (P b) (P a)) (gv_s (P x) (P a))) ≠ 0) ∧
    ((∀ r, r < n → B f r = true → 0 ≤ gv_d (N f) (gv_x (gv_s (P b) (P a)) (gv_s (P r) (P a)))) ∨ (∀ r, r < n → B f r = true → gv_d (N f) (gv_x (gv_s (P b) (P a)) (gv_s (P r) (P a))) ≤ 0)) := by
  obtain ⟨hle, hB, hnc, hst, hdis⟩ := id H
  have hg : ∃ g, g < F ∧ g ≠ f ∧ B g a = true ∧ B g b = true := by
    obtain ⟨g1, g2, h1, h2, p1, p2, g12⟩ := hs_c2_out w
    by_cases e : g1 = f
    · exact ⟨g2, h2, by omega, (he_and p2).1, (he_and p2).2⟩
    · exact ⟨g1, h1, e, (he_and p1).1, (he_and p1).2⟩
  obtain ⟨g, hg, gf, ga, gb⟩ := hg
  obtain ⟨x, hx, fx, ncx⟩ := he_off H hf (i := a) (j := b) ab
  have ea := (hB f hf a ha).mp fa
  have ga' := (hB g hg a ha).mp ga
  have gb' := (hB g hg b hb).mp gb
  have M0 : gv_d (N f) (N f) ≠ 0 := by
    obtain ⟨d, hd, dl⟩ := hst f hf
    apply gv_ne (q := gv_s (P d) (P a))
    rw [gv_ds]; omega
  have z : ∀ r, r < n → B f r = true → gv_d (N f) (gv_s (P r) (P a)) = 0 := by
    intro r hr fr
    rw [gv_ds, ea, (hB f hf r hr).mp fr, Int.sub_self]
  have Dx : gv_d (N f) (gv_x (gv_s (P b) (P a)) (gv_s (P x) (P a))) ≠ 0 := fun h => ncx (gv_flat (N f) _ _ M0 (z b hb fb) (z x hx fx) h)
  have px : gv_d (N g) (gv_s (P x) (P a)) < 0 := by
    have h1 := hle g hg x hx
    have h2 : gv_d (N g) (P x) ≠ L g := fun h => gf (hf_same H hg hf ha hb hx ga gb ((hB g hg x hx).mpr h) fa fb fx ncx)
    rw [gv_ds]; omega
  have id2 : ∀ r, r < n → B f r = true → gv_d (N g) (gv_s (P x) (P a)) * gv_d (N f) (gv_x (gv_s (P b) (P a)) (gv_s (P r) (P a))) = gv_d (N g) (gv_s (P r) (P a)) * gv_d (N f) (gv_x (gv_s (P b) (P a)) (gv_s (P x) (P a))) := by
    intro r hr fr
    have e := gv_2d (N f) (N g) (gv_s (P b) (P a)) (gv_s (P x) (P a)) (gv_s (P r) (P a)) M0 (z b hb fb) (z x hx fx) (z r hr fr)
    have e0 : gv_d (N g) (gv_s (P b) (P a)) = 0 := by rw [gv_ds, ga', gb', Int.sub_self]
    rw [e0, Int.zero_mul, Int.zero_add] at e
    exact e
  refine ⟨⟨x, hx, fx, Dx⟩, ?_⟩
  rcases Int.lt_or_gt_of_ne Dx with h | h
  · right
    intro r hr fr
    have e := id2 r hr fr
    have pr : gv_d (N g) (gv_s (P r) (P a)) ≤ 0 := by have := hle g hg r hr; rw [gv_ds]; omega
    have t := Int.mul_nonneg_of_nonpos_of_nonpos pr (Int.le_of_lt h)
    exact gv_m5 px (by omega)
  · left
    intro r hr fr
    have e := id2 r hr fr
    have pr : gv_d (N g) (gv_s (P r) (P a)) ≤ 0 := by have := hle g hg r hr; rw [gv_ds]; omega
    have t := Int.mul_nonpos_of_nonpos_of_nonneg pr (Int.le_of_lt h)
    exact gv_m6 px (by omega)
