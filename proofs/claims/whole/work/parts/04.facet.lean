/-! lists of facet planes: true ones, each once -/
def hf_nc (a b c : gv_V) : Prop := gv_d (gv_x (gv_s b a) (gv_s c a)) (gv_x (gv_s b a) (gv_s c a)) ≠ 0
theorem hf_nc1 {a b c : gv_V} (h : hf_nc a b c) : hf_nc b a c := by
  have e : gv_d (gv_x (gv_s a b) (gv_s c b)) (gv_x (gv_s a b) (gv_s c b)) = gv_d (gv_x (gv_s b a) (gv_s c a)) (gv_x (gv_s b a) (gv_s c a)) := by
    simp only [gv_d, gv_x, gv_s]; grobner
  unfold hf_nc at *
  rw [e]; exact h
theorem hf_nc2 {a b c : gv_V} (h : hf_nc a b c) : hf_nc a c b := by
  have e : gv_d (gv_x (gv_s c a) (gv_s b a)) (gv_x (gv_s c a) (gv_s b a)) = gv_d (gv_x (gv_s b a) (gv_s c a)) (gv_x (gv_s b a) (gv_s c a)) := by
    simp only [gv_d, gv_x]; grobner
  unfold hf_nc at *
  rw [e]; exact h
theorem hf_nc_ne {a b c : gv_V} (h : hf_nc a b c) : a ≠ b := by
  intro e
  apply h
  subst e
  simp [gv_d, gv_x, gv_s]
theorem hf_sub0 {a b : gv_V} (h : a ≠ b) : gv_d (gv_s b a) (gv_s b a) ≠ 0 := fun e => h (gv_same _ _ e).symm
def hf_FL (n : Nat) (P : Nat → gv_V) (F : Nat) (N : Nat → gv_V) (L : Nat → Int) (B : Nat → Nat → Bool) : Prop :=
  (∀ f, f < F → ∀ i, i < n → gv_d (N f) (P i) ≤ L f) ∧
  (∀ f, f < F → ∀ i, i < n → (B f i = true ↔ gv_d (N f) (P i) = L f)) ∧
  (∀ f, f < F → ∃ a b c, a < n ∧ b < n ∧ c < n ∧ B f a = true ∧ B f b = true ∧ B f c = true ∧ hf_nc (P a) (P b) (P c)) ∧
  (∀ f, f < F → ∃ d, d < n ∧ gv_d (N f) (P d) < L f) ∧
  (∀ f g, f < F → g < F → (∀ i, i < n → B f i = B g i) → f = g)
def hf_CP (n : Nat) (P : Nat → gv_V) (F : Nat) (B : Nat → Nat → Bool) : Prop :=
  ∀ (w : gv_V) (l : Int), (∀ i, i < n → gv_d w (P i) ≤ l) → (∃ d, d < n ∧ gv_d w (P d) < l) →
    ∀ a b c, a < n → b < n → c < n → gv_d w (P a) = l → gv_d w (P b) = l → gv_d w (P c) = l → hf_nc (P a) (P b) (P c) →
      ∃ f, f < F ∧ ∀ i, i < n → (B f i = true ↔ gv_d w (P i) = l)
def hf_so (n : Nat) (P : Nat → gv_V) : Prop :=
  ∃ a b c d, a < n ∧ b < n ∧ c < n ∧ d < n ∧ gv_d (gv_x (gv_s (P b) (P a)) (gv_s (P c) (P a))) (gv_s (P d) (P a)) ≠ 0
theorem hf_so_use {n : Nat} {P : Nat → gv_V} (h : hf_so n P) (p w : gv_V) (hw : ∀ i, i < n → gv_d w (gv_s (P i) p) = 0) : gv_d w w = 0 := by
  obtain ⟨a, b, c, d, ha, hb, hc, hd, h0⟩ := h
  have ea := hw a ha
  have eb := hw b hb
  have ec := hw c hc
  have ed := hw d hd
  rw [gv_ds] at ea eb ec ed
  have e : ∀ u v q : gv_V, gv_d (gv_x u v) q * gv_d w w = gv_d w u * gv_d (gv_x v q) w + gv_d w v * gv_d (gv_x q u) w + gv_d w q * gv_d (gv_x u v) w := by
    intro u v q
    simp only [gv_d, gv_x]; grobner
  have e1 := e (gv_s (P b) (P a)) (gv_s (P c) (P a)) (gv_s (P d) (P a))
  have z1 : gv_d w (gv_s (P b) (P a)) = 0 := by rw [gv_ds]; omega
  have z2 : gv_d w (gv_s (P c) (P a)) = 0 := by rw [gv_ds]; omega
  have z3 : gv_d w (gv_s (P d) (P a)) = 0 := by rw [gv_ds]; omega
  rw [z1, z2, z3, Int.zero_mul, Int.zero_mul, Int.zero_mul] at e1
  rcases Int.mul_eq_zero.mp (e1.trans (show ((0 : Int) + 0 + 0) = 0 from rfl)) with h | h
  · exact absurd h h0
  · exact h
theorem hf_so_of {n F : Nat} {P N : Nat → gv_V} {L : Nat → Int} {B : Nat → Nat → Bool} (H : hf_FL n P F N L B) (h : 0 < F) : hf_so n P := by
  obtain ⟨hle, hB, hnc, hst, _⟩ := H
  obtain ⟨a, b, c, ha, hb, hc, fa, fb, fc, nc⟩ := hnc 0 h
  obtain ⟨d, hd, dl⟩ := hst 0 h
  have ea := (hB 0 h a ha).mp fa
  have eb := (hB 0 h b hb).mp fb
  have ec := (hB 0 h c hc).mp fc
  refine ⟨a, b, c, d, ha, hb, hc, hd, fun e => ?_⟩
  have dd : gv_d (N 0) (gv_s (P d) (P a)) ≠ 0 := by rw [gv_ds]; omega
  exact dd ((gv_par (N 0) (gv_s (P b) (P a)) (gv_s (P c) (P a)) (gv_s (P d) (P a)) (by rw [gv_ds]; omega) (by rw [gv_ds]; omega) nc dd _).mpr e)
-- some facet plane exists
set_option maxHeartbeats 2000000 in
theorem hf_some {n F : Nat} {P : Nat → gv_V} {B : Nat → Nat → Bool} (C : hf_CP n P F B) (so : hf_so n P) : 0 < F := by
  have hn : 0 < n := by obtain ⟨a, _, _, _, ha, _⟩ := so; omega
  obtain ⟨p, hp, _, hmin⟩ := hr_max (fun _ => True) (fun a b => (P a).1 ≤ (P b).1) (fun a b _ _ => Int.le_total _ _) (fun a b c _ _ _ h1 h2 => Int.le_trans h1 h2) n ⟨0, hn, trivial⟩
  have hc : ∃ c, c < n ∧ gv_d (-1, 0, 0) (gv_s (P c) (P p)) < 0 := by
    apply Classical.byContradiction
    intro hn
    have := hf_so_use so (P p) (1, 0, 0) (fun i hi => Classical.byContradiction fun h => hn ⟨i, hi, by
      have h1 : (P p).1 ≤ (P i).1 := hmin i hi trivial
      simp only [gv_d, gv_s] at h ⊢
      omega⟩)
    simp [gv_d] at this
  obtain ⟨c, hc, cl⟩ := hc
  obtain ⟨q, r, w, hq, hr, wq, wr, nc, hw, wc⟩ := hr_dr n (fun i => gv_s (P i) (P p)) (-1, 0, 0) c (fun i hi => by
      have h1 : (P p).1 ≤ (P i).1 := hmin i hi trivial
      simp only [gv_d, gv_s]
      omega) hc cl (fun w hw => hf_so_use so (P p) w hw)
  (try dsimp only at *)
  obtain ⟨f, hf, _⟩ := C w (gv_d w (P p)) (fun i hi => by have := hw i hi; rw [gv_ds] at this; omega) ⟨c, hc, by rw [gv_ds] at wc; omega⟩ p q r hp hq hr rfl (by rw [gv_ds] at wq; omega) (by rw [gv_ds] at wr; omega) nc
  omega
theorem hf_same {n F : Nat} {P N : Nat → gv_V} {L : Nat → Int} {B : Nat → Nat → Bool} (H : hf_FL n P F N L B) {f g : Nat} (hf : f < F) (hg : g < F) {i j k : Nat} (hi : i < n) (hj : j < n) (hk : k < n)
    (fi : B f i = true) (fj : B f j = true) (fk : B f k = true) (gi : B g i = true) (gj : B g j = true) (gk : B g k = true) (nc : hf_nc (P i) (P j) (P k)) : f = g := by
  obtain ⟨hle, hB, hnc, hst, hdis⟩ := H
  refine hdis f g hf hg fun x hx => ?_
  have key : ∀ f, f < F → B f i = true → B f j = true → B f k = true → (B f x = true ↔ gv_d (gv_x (gv_s (P j) (P i)) (gv_s (P k) (P i))) (gv_s (P x) (P i)) = 0) := by
    intro f hf fi fj fk
    have ei := (hB f hf i hi).mp fi
    have ej := (hB f hf j hj).mp fj
    have ek := (hB f hf k hk).mp fk
    obtain ⟨d, hd, hdl⟩ := hst f hf
    have hp := gv_par (N f) (gv_s (P j) (P i)) (gv_s (P k) (P i)) (gv_s (P d) (P i)) (by rw [gv_ds]; omega) (by rw [gv_ds]; omega) nc (by rw [gv_ds]; omega) (gv_s (P x) (P i))
    rw [hB f hf x hx, ← hp, gv_ds]
    constructor
    · intro h; omega
    · intro h; omega
  exact Bool.eq_iff_iff.mpr ((key f hf fi fj fk).trans (key g hg gi gj gk).symm)
/-! no more than 2n - 4 of them -/
def hf_pt (p v a b : gv_V) : gv_V := gv_a (gv_c (gv_d p a - gv_d p v) (gv_s b v)) (gv_c (gv_d p v - gv_d p b) (gv_s a v))
theorem hf_pt_d (m p v a b : gv_V) : gv_d m (hf_pt p v a b) = (gv_d p a - gv_d p v) * (gv_d m b - gv_d m v) + (gv_d p v - gv_d p b) * (gv_d m a - gv_d m v) := by
  simp only [hf_pt, gv_dar, gv_dcr, gv_ds]
def hf_md (n : Nat) (P : Nat → gv_V) (B : Nat → Nat → Bool) (p : gv_V) (f v : Nat) : Prop :=
  v < n ∧ B f v = true ∧ ∃ a b, a < n ∧ b < n ∧ B f a = true ∧ B f b = true ∧ gv_d p (P v) < gv_d p (P a) ∧ gv_d p (P b) < gv_d p (P v) ∧ hf_nc (P v) (P a) (P b)
theorem hf_mid {n F : Nat} {P N : Nat → gv_V} {L : Nat → Int} {B : Nat → Nat → Bool} (H : hf_FL n P F N L B) {f g : Nat} (hf : f < F) (hg : g < F) (hfg : f ≠ g) {v a b : Nat} (hv : v < n) (ha : a < n) (hb : b < n)
    (fv : B f v = true) (fa : B f a = true) (fb : B f b = true) (gv : B g v = true) (p : gv_V) (pa : gv_d p (P v) < gv_d p (P a)) (pb : gv_d p (P b) < gv_d p (P v)) (nc : hf_nc (P v) (P a) (P b)) :
    gv_d (N g) (hf_pt p (P v) (P a) (P b)) < 0 := by
  have H' := H
  obtain ⟨hle, hB, hnc, hst, hdis⟩ := H'
  have e := (hB g hg v hv).mp gv
  have la := hle g hg a ha
  have lb := hle g hg b hb
  rw [hf_pt_d]
  by_cases hx : gv_d (N g) (P a) = L g
  · have hy : gv_d (N g) (P b) ≠ L g := fun hy => hfg (hf_same H hf hg hv ha hb fv fa fb gv ((hB g hg a ha).mpr hx) ((hB g hg b hb).mpr hy) nc)
    have m1 := Int.mul_neg_of_pos_of_neg (show 0 < gv_d p (P a) - gv_d p (P v) by omega) (show gv_d (N g) (P b) - gv_d (N g) (P v) < 0 by omega)
    have m2 := Int.mul_nonpos_of_nonneg_of_nonpos (show 0 ≤ gv_d p (P v) - gv_d p (P b) by omega) (show gv_d (N g) (P a) - gv_d (N g) (P v) ≤ 0 by omega)
    omega
  · have m1 := Int.mul_nonpos_of_nonneg_of_nonpos (show 0 ≤ gv_d p (P a) - gv_d p (P v) by omega) (show gv_d (N g) (P b) - gv_d (N g) (P v) ≤ 0 by omega)
    have m2 := Int.mul_neg_of_pos_of_neg (show 0 < gv_d p (P v) - gv_d p (P b) by omega) (show gv_d (N g) (P a) - gv_d (N g) (P v) < 0 by omega)
    omega
set_option maxHeartbeats 2000000 in
theorem hf_two {n F : Nat} {P N : Nat → gv_V} {L : Nat → Int} {B : Nat → Nat → Bool} (H : hf_FL n P F N L B) (p : gv_V) {f g h v : Nat} (hf : f < F) (hg : g < F) (hh : h < F) (fg : f ≠ g) (fh : f ≠ h) (gh : g ≠ h)
    (mf : hf_md n P B p f v) (mg : hf_md n P B p g v) (mh : hf_md n P B p h v) : False := by
  obtain ⟨hv, fv, a1, b1, ha1, hb1, fa1, fb1, pa1, pb1, nc1⟩ := mf
  obtain ⟨_, gv, a2, b2, ha2, hb2, ga2, gb2, pa2, pb2, nc2⟩ := mg
  obtain ⟨_, hv', a3, b3, ha3, hb3, ha3', hb3', pa3, pb3, nc3⟩ := mh
  obtain ⟨hle, hB, hnc, hst, hdis⟩ := id H
  have z : ∀ f a b, f < F → a < n → b < n → B f v = true → B f a = true → B f b = true → gv_d (N f) (hf_pt p (P v) (P a) (P b)) = 0 := by
    intro f a b hf ha hb fv fa fb
    rw [hf_pt_d, (hB f hf v hv).mp fv, (hB f hf a ha).mp fa, (hB f hf b hb).mp fb, Int.sub_self, Int.mul_zero, Int.mul_zero] <;> rfl
  have zp : ∀ a b : gv_V, gv_d p (hf_pt p (P v) a b) = 0 := by
    intro a b
    rw [hf_pt_d]; grobner
  refine gv_tri (N f) (N g) (N h) p (hf_pt p (P v) (P a1) (P b1)) (hf_pt p (P v) (P a2) (P b2)) (hf_pt p (P v) (P a3) (P b3)) (gv_s (P a1) (P v))
    (z f a1 b1 hf ha1 hb1 fv fa1 fb1) (zp _ _) (hf_mid H hf hg fg hv ha1 hb1 fv fa1 fb1 gv p pa1 pb1 nc1) (hf_mid H hf hh fh hv ha1 hb1 fv fa1 fb1 hv' p pa1 pb1 nc1)
    (z g a2 b2 hg ha2 hb2 gv ga2 gb2) (zp _ _) (hf_mid H hg hf (Ne.symm fg) hv ha2 hb2 gv ga2 gb2 fv p pa2 pb2 nc2) (hf_mid H hg hh gh hv ha2 hb2 gv ga2 gb2 hv' p pa2 pb2 nc2)
    (z h a3 b3 hh ha3 hb3 hv' ha3' hb3') (zp _ _) (hf_mid H hh hf (Ne.symm fh) hv ha3 hb3 hv' ha3' hb3' fv p pa3 pb3 nc3) (hf_mid H hh hg (Ne.symm gh) hv ha3 hb3 hv' ha3' hb3' gv p pa3 pb3 nc3) ?_ ?_
  · rw [gv_ds, (hB f hf v hv).mp fv, (hB f hf a1 ha1).mp fa1, Int.sub_self]
  · rw [gv_ds]; omega
theorem hf_hasmd {n F : Nat} {P N : Nat → gv_V} {L : Nat → Int} {B : Nat → Nat → Bool} (H : hf_FL n P F N L B) (p : gv_V) (inj : ∀ i j, i < n → j < n → P i ≠ P j → gv_d p (P i) ≠ gv_d p (P j)) {f : Nat} (hf : f < F) : ∃ v, hf_md n P B p f v := by
  obtain ⟨hle, hB, hnc, hst, hdis⟩ := H
  obtain ⟨a, b, c, ha, hb, hc, fa, fb, fc, nc⟩ := hnc f hf
  have nab := inj a b ha hb (hf_nc_ne nc)
  have nac := inj a c ha hc (hf_nc_ne (hf_nc2 nc))
  have nbc := inj b c hb hc (hf_nc_ne (hf_nc2 (hf_nc1 nc)))
  rcases Int.lt_or_gt_of_ne nab with h1 | h1 <;> rcases Int.lt_or_gt_of_ne nac with h2 | h2 <;> rcases Int.lt_or_gt_of_ne nbc with h3 | h3
  · exact ⟨b, hb, fb, c, a, hc, ha, fc, fa, h3, h1, hf_nc2 (hf_nc1 nc)⟩
  · exact ⟨c, hc, fc, b, a, hb, ha, fb, fa, h3, h2, hf_nc2 (hf_nc1 (hf_nc2 nc))⟩
  · exact absurd h1 (by omega)
  · exact ⟨a, ha, fa, b, c, hb, hc, fb, fc, h1, h2, nc⟩
  · exact ⟨a, ha, fa, c, b, hc, hb, fc, fb, h2, h1, hf_nc2 nc⟩
  · exact absurd h1 (by omega)
  · exact ⟨c, hc, fc, a, b, ha, hb, fa, fb, h2, h3, hf_nc1 (hf_nc2 nc)⟩
  · exact ⟨b, hb, fb, a, c, ha, hc, fa, fc, h1, h3, hf_nc1 nc⟩
set_option maxHeartbeats 2000000 in
theorem hf_cap {n F : Nat} {P N : Nat → gv_V} {L : Nat → Int} {B : Nat → Nat → Bool} (H : hf_FL n P F N L B) (p : gv_V) (inj : ∀ i j, i < n → j < n → P i ≠ P j → gv_d p (P i) ≠ gv_d p (P j)) : F = 0 ∨ F + 4 ≤ 2 * n := by
  by_cases hF : F = 0
  · exact Or.inl hF
  right
  have hex : ∀ f, ∃ v, f < F → hf_md n P B p f v := by
    intro f
    by_cases hf : f < F
    · obtain ⟨v, hv⟩ := hf_hasmd H p inj hf
      exact ⟨v, fun _ => hv⟩
    · exact ⟨0, fun h => absurd h hf⟩
  obtain ⟨w, hw⟩ := Classical.axiomOfChoice hex
  have h0 : hf_md n P B p 0 (w 0) := hw 0 (by omega)
  have hn : 0 < n := by have := h0.1; omega
  obtain ⟨t, ht, _, htop⟩ := hr_max (fun _ => True) (fun a b => gv_d p (P b) ≤ gv_d p (P a)) (fun a b _ _ => Int.le_total _ _) (fun a b c _ _ _ h1 h2 => Int.le_trans h2 h1) n ⟨0, hn, trivial⟩
  obtain ⟨b, hb, _, hbot⟩ := hr_max (fun _ => True) (fun a b => gv_d p (P a) ≤ gv_d p (P b)) (fun a b _ _ => Int.le_total _ _) (fun a b c _ _ _ h1 h2 => Int.le_trans h1 h2) n ⟨0, hn, trivial⟩
  have tb : t ≠ b := by
    intro e
    obtain ⟨hv, _, a1, _, ha1, _, _, _, pa1, _⟩ := h0
    have e1 : gv_d p (P a1) ≤ gv_d p (P t) := htop a1 ha1 trivial
    have e2 : gv_d p (P b) ≤ gv_d p (P (w 0)) := hbot (w 0) hv trivial
    rw [e] at e1
    omega
  have ct : hs_c (fun f => w f == t) F = 0 := by
    refine hs_c_zero F fun f hf h => ?_
    obtain ⟨hv, _, a1, _, ha1, _, _, _, pa1, _⟩ := hw f hf
    have e : w f = t := by simpa using h
    have e1 : gv_d p (P a1) ≤ gv_d p (P t) := htop a1 ha1 trivial
    rw [e] at pa1
    omega
  have cb : hs_c (fun f => w f == b) F = 0 := by
    refine hs_c_zero F fun f hf h => ?_
    obtain ⟨hv, _, a1, b1, ha1, hb1, _, _, pa1, pb1, _⟩ := hw f hf
    have e : w f = b := by simpa using h
    have e1 : gv_d p (P b) ≤ gv_d p (P b1) := hbot b1 hb1 trivial
    rw [e] at pb1
    omega
  have c2 : ∀ v, v < n → hs_c (fun f => w f == v) F ≤ 2 := by
    intro v hv
    apply Classical.byContradiction
    intro hgt
    obtain ⟨f, g, h, hf, hg, hh, ef, eg, eh, fg, fh, gh⟩ := hs_c3_out (p := fun f => w f == v) (k := F) (by omega)
    have ef' : w f = v := by simpa using ef
    have eg' : w g = v := by simpa using eg
    have eh' : w h = v := by simpa using eh
    have mf := hw f hf
    have mg := hw g hg
    have mh := hw h hh
    rw [ef'] at mf
    rw [eg'] at mg
    rw [eh'] at mh
    exact hf_two H p hf hg hh fg fh gh mf mg mh
  have s1 := hs_cap (fun v => hs_c (fun f => w f == v) F) t b tb ct cb n c2
  rw [hs_fib w n F (fun f hf => (hw f hf).1), if_pos ht, if_pos hb] at s1
  omega
