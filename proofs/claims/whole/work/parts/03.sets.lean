/-! ===== together, mates ===== -/
section
variable {n : Nat} {p m t f ma al le : Nat → Int32}
theorem st_xft (ok : st_Ok n p m) {post : SX → Prop} (hp : ∀ t' : Nat → Int32, (∀ j, j < 8 → t' j = st_wi n p m j) → post (nI n, p, m, t', f)) : ∀ d i : Nat, i + d = 8 → ∀ t : Nat → Int32, (∀ j, j < i → t j = st_wi n p m j) → wX_fillTogether_2 post (nI n) (d + 1) (nI i) p m t f := by
  intro d
  induction d with
  | zero =>
    intro i hi t ht
    obtain rfl : i = 8 := by omega
    exact br_t (by decide) (hp t ht)
  | succ d ih =>
    intro i hi t ht
    have e : (nI i).toNatClampNeg = i := nI_clamp (by omega)
    refine br_f (nI_ge (b := 8) (by omega) (by decide)) (st_xw ok i ⟨vp_in_nI (by omega) (by decide), nm_r (congrArg (fun k => upd t k (st_wi n p m i)) e) (nm_r (nI_1 i) (ih (i + 1) (by omega) _ ?_))⟩)
    intro j hj
    by_cases h : j = i
    · rw [h]; exact pk_us
    · exact (pk_un h).trans (ht j (by omega))
theorem st_xf (ok : st_Ok n p m) {post : SX → Prop} (hp : ∀ t' : Nat → Int32, (∀ j, j < 8 → t' j = st_wi n p m j) → post (nI n, p, m, t', f)) : wpX_fillTogether post (nI n, p, m, t, f) :=
  ⟨9, st_xft ok hp 8 0 rfl t (fun j hj => absurd hj (Nat.not_lt_zero j))⟩
theorem st_yft (ok : st_Ok n p m) {post : SY → Prop} (hp : ∀ t' : Nat → Int32, (∀ j, j < 8 → t' j = st_wi n p m j) → post (nI n, p, m, t', al, le)) : ∀ d i : Nat, i + d = 8 → ∀ t : Nat → Int32, (∀ j, j < i → t j = st_wi n p m j) → wY_findMates_2 post (nI n) (d + 1) (nI i) p m t al le := by
  intro d
  induction d with
  | zero =>
    intro i hi t ht
    obtain rfl : i = 8 := by omega
    exact br_t (by decide) (hp t ht)
  | succ d ih =>
    intro i hi t ht
    have e : (nI i).toNatClampNeg = i := nI_clamp (by omega)
    refine br_f (nI_ge (b := 8) (by omega) (by decide)) (st_yw ok i ⟨vp_in_nI (by omega) (by decide), nm_r (congrArg (fun k => upd t k (st_wi n p m i)) e) (nm_r (nI_1 i) (ih (i + 1) (by omega) _ ?_))⟩)
    intro j hj
    by_cases h : j = i
    · rw [h]; exact pk_us
    · exact (pk_un h).trans (ht j (by omega))
theorem st_yf (ok : st_Ok n p m) {post : SY → Prop} (hp : ∀ t' : Nat → Int32, (∀ j, j < 8 → t' j = st_wi n p m j) → post (nI n, p, m, t', al, le)) : wpY_findMates post (nI n, p, m, ma, al, le) :=
  ⟨9, st_yft ok hp 8 0 rfl ma (fun j hj => absurd hj (Nat.not_lt_zero j))⟩
/-! ===== a set's size ===== -/
def st_sz (x : Int32) : Int32 := st_su (st_g x) 8 0 0
theorem st_xsz (c x : Int32) (post : Int32 → Prop) : ∀ d i : Nat, i + d = 8 → ∀ a : Int32, post (st_su (st_g x) d i a) → wX_sizeOf_4 post x c p m t f (d + 1) a (nI i) := by
  intro d
  induction d with
  | zero =>
    intro i hi a hp
    obtain rfl : i = 8 := by omega
    exact br_t (by decide) hp
  | succ d ih =>
    intro i hi a hp
    exact br_f (nI_ge (b := 8) (by omega) (by decide)) (nm_e (nm_r (nI_1 i) (ih (i + 1) (by omega) _ hp)))
theorem st_ysz (c x : Int32) (post : Int32 → Prop) : ∀ d i : Nat, i + d = 8 → ∀ a : Int32, post (st_su (st_g x) d i a) → wY_sizeOf_4 post x c p m ma al le (d + 1) a (nI i) := by
  intro d
  induction d with
  | zero =>
    intro i hi a hp
    obtain rfl : i = 8 := by omega
    exact br_t (by decide) hp
  | succ d ih =>
    intro i hi a hp
    exact br_f (nI_ge (b := 8) (by omega) (by decide)) (nm_e (nm_r (nI_1 i) (ih (i + 1) (by omega) _ hp)))
theorem st_xz (c x : Int32) {post : Int32 → Prop} (hp : post (st_sz x)) : wpX_sizeOf post (c, p, m, t, f) x :=
  ⟨9, st_xsz c x post 8 0 rfl 0 hp⟩
theorem st_yz (c x : Int32) {post : Int32 → Prop} (hp : post (st_sz x)) : wpY_sizeOf post (c, p, m, ma, al, le) x :=
  ⟨9, st_ysz c x post 8 0 rfl 0 hp⟩
/-! ===== every two together ===== -/
def st_cP (W : Nat → Int32) (x : Int32) (s : Nat) : Bool := decide (st_g x s = 0) || decide ((x &&& (W s ^^^ (-1))) = 0)
def st_cr (W : Nat → Int32) (x : Int32) : Bool := st_al (st_cP W x) 8 0
theorem st_cP_t {W : Nat → Int32} {x : Int32} {s : Nat} (h : st_g x s = 0) : st_cP W x s = true := by
  unfold st_cP; rw [decide_eq_true h]; rfl
theorem st_cP_f {W : Nat → Int32} {x : Int32} {s : Nat} (h : ¬ st_g x s = 0) : st_cP W x s = decide ((x &&& (W s ^^^ (-1))) = 0) := by
  unfold st_cP; rw [decide_eq_false h]; rfl
theorem st_xcr (c x : Int32) {W : Nat → Int32} (ht : ∀ j, j < 8 → t j = W j) (post : Int32 → Prop) : ∀ d i : Nat, i + d = 8 → post (st_b (st_al (st_cP W x) d i)) → wX_isCrowd_2 post x c p m t f (d + 1) (nI i) := by
  intro d
  induction d with
  | zero =>
    intro i hi hp
    obtain rfl : i = 8 := by omega
    exact br_t (by decide) hp
  | succ d ih =>
    intro i hi hp
    have hp' : post (st_b (st_cP W x i && st_al (st_cP W x) d (i + 1))) := hp
    have e : t (nI i).toNatClampNeg = W i := by rw [nI_clamp (by omega)]; exact ht i (by omega)
    refine br_f (nI_ge (b := 8) (by omega) (by decide)) ?_
    by_cases h : st_g x i = 0
    · rw [st_cP_t h, Bool.true_and] at hp'
      exact br_t h (nm_r (nI_1 i) (ih (i + 1) (by omega) hp'))
    · rw [st_cP_f h] at hp'
      refine br_f h ⟨vp_in_nI (by omega) (by decide), ?_⟩
      by_cases h2 : (x &&& (W i ^^^ (-1))) = 0
      · rw [decide_eq_true h2, Bool.true_and] at hp'
        exact br_t (by rw [e]; exact h2) (nm_r (nI_1 i) (ih (i + 1) (by omega) hp'))
      · rw [decide_eq_false h2, Bool.false_and] at hp'
        exact br_f (by rw [e]; exact h2) hp'
theorem st_xr (c x : Int32) {W : Nat → Int32} (ht : ∀ j, j < 8 → t j = W j) {post : Int32 → Prop} (hp : post (st_b (st_cr W x))) : wpX_isCrowd post (c, p, m, t, f) x :=
  ⟨9, st_xcr c x ht post 8 0 rfl hp⟩
theorem st_nb (b : Bool) : narrow .boolean (.int (st_b b)) = .int (st_b b) := by
  cases b <;> rfl
theorem st_b0 : st_b false = 0 := rfl
theorem st_b1 : st_b true = 1 := rfl
theorem st_ycr (c x : Int32) {W : Nat → Int32} (ht : ∀ j, j < 8 → ma j = W j) (post : Int32 → Prop) : ∀ d i : Nat, i + d = 8 → ∀ b : Bool, post (st_b (b && st_al (st_cP W x) d i)) → wY_together_4 post x c p m ma al le (d + 1) (st_b b) (nI i) := by
  intro d
  induction d with
  | zero =>
    intro i hi b hp
    obtain rfl : i = 8 := by omega
    refine br_t (by decide) ⟨st_nb b, ?_⟩
    have hp' : post (st_b (b && true)) := hp
    rw [Bool.and_true] at hp'
    exact hp'
  | succ d ih =>
    intro i hi b hp
    have hp' : post (st_b (b && (st_cP W x i && st_al (st_cP W x) d (i + 1)))) := hp
    have e : ma (nI i).toNatClampNeg = W i := by rw [nI_clamp (by omega)]; exact ht i (by omega)
    refine br_f (nI_ge (b := 8) (by omega) (by decide)) ?_
    by_cases h : st_g x i = 1
    · rw [st_cP_f ((st_g1 _ _).mp h)] at hp'
      refine br_t h ?_
      cases b with
      | false => exact br_t rfl (nm_r (nI_1 i) (ih (i + 1) (by omega) false hp'))
      | true =>
        rw [Bool.true_and] at hp'
        refine br_f (by decide) ⟨vp_in_nI (by omega) (by decide), ?_⟩
        by_cases h2 : (x &&& (W i ^^^ (-1))) = 0
        · rw [decide_eq_true h2] at hp'
          exact br_t (by rw [e]; exact h2) (nm_r (nI_1 i) (ih (i + 1) (by omega) true hp'))
        · rw [decide_eq_false h2] at hp'
          exact br_f (by rw [e]; exact h2) (nm_r (nI_1 i) (ih (i + 1) (by omega) false hp'))
    · have h' : st_g x i = 0 := Classical.byContradiction (fun z => h ((st_g1 _ _).mpr z))
      rw [st_cP_t h', Bool.true_and] at hp'
      exact br_f h (nm_r (nI_1 i) (ih (i + 1) (by omega) b hp'))
theorem st_yr (c x : Int32) {W : Nat → Int32} (ht : ∀ j, j < 8 → ma j = W j) {post : Int32 → Prop} (hp : post (st_b (st_cr W x))) : wpY_together post (c, p, m, ma, al, le) x :=
  ⟨9, st_ycr c x ht post 8 0 rfl true hp⟩
/-! ===== crowd's own loop ===== -/
def st_mx (W : Nat → Int32) : Nat → Nat → Int32 → Int32
  | 0, _, a => a
  | d + 1, i, a => st_mx W d (i + 1) (if st_sz (nI i) ≤ a then a else if st_cr W (nI i) = true then st_sz (nI i) else a)
theorem st_xmx (c : Int32) {W : Nat → Int32} (ht : ∀ j, j < 8 → t j = W j) (post : Int32 → SX → Prop) : ∀ d i : Nat, i + d = 256 → ∀ a : Int32, post (st_mx W d i a) (c, p, m, t, f) → wX_crowd_8 post c p m t f (d + 1) a (nI i) := by
  intro d
  induction d with
  | zero =>
    intro i hi a hp
    obtain rfl : i = 256 := by omega
    exact br_t (by decide) hp
  | succ d ih =>
    intro i hi a hp
    have hp' : post (st_mx W d (i + 1) (if st_sz (nI i) ≤ a then a else if st_cr W (nI i) = true then st_sz (nI i) else a)) (c, p, m, t, f) := hp
    refine br_f (nI_ge (b := 256) (by omega) (by decide)) (st_xz c (nI i) (br_c (fun h => ?_) (fun h => ?_)))
    · rw [if_pos h] at hp'
      exact nm_r (nI_1 i) (ih (i + 1) (by omega) a hp')
    · rw [if_neg h] at hp'
      refine st_xr c (nI i) ht ?_
      by_cases h2 : st_cr W (nI i) = true
      · rw [if_pos h2] at hp'
        exact br_f (by rw [h2]; decide) (nm_r (nI_1 i) (ih (i + 1) (by omega) _ hp'))
      · rw [if_neg h2] at hp'
        exact br_t (by rw [eq_false_of_ne_true h2]; rfl) (nm_r (nI_1 i) (ih (i + 1) (by omega) _ hp'))
theorem st_ymx (c : Int32) {W : Nat → Int32} (ht : ∀ j, j < 8 → ma j = W j) (post : Int32 → SY → Prop) : ∀ d i : Nat, i + d = 256 → ∀ a : Int32, post (st_mx W d i a) (c, p, m, ma, al, le) → wY_crowd_8 post c p m ma al le (d + 1) a (nI i) := by
  intro d
  induction d with
  | zero =>
    intro i hi a hp
    obtain rfl : i = 256 := by omega
    exact br_t (by decide) hp
  | succ d ih =>
    intro i hi a hp
    have hp' : post (st_mx W d (i + 1) (if st_sz (nI i) ≤ a then a else if st_cr W (nI i) = true then st_sz (nI i) else a)) (c, p, m, ma, al, le) := hp
    refine br_f (nI_ge (b := 256) (by omega) (by decide)) (st_yz c (nI i) (br_c (fun h => ?_) (fun h => ?_)))
    · rw [if_pos h] at hp'
      exact nm_r (nI_1 i) (ih (i + 1) (by omega) a hp')
    · rw [if_neg h] at hp'
      refine st_yr c (nI i) ht ?_
      by_cases h2 : st_cr W (nI i) = true
      · rw [if_pos h2] at hp'
        exact br_f (by rw [h2]; decide) (nm_r (nI_1 i) (ih (i + 1) (by omega) _ hp'))
      · rw [if_neg h2] at hp'
        exact br_t (by rw [eq_false_of_ne_true h2]; rfl) (nm_r (nI_1 i) (ih (i + 1) (by omega) _ hp'))
/-! ===== no two together ===== -/
def st_oP (W : Nat → Int32) (x : Int32) (s : Nat) : Bool := decide (st_g x s = 0) || decide (((x &&& W s) &&& (st_bit s ^^^ (-1))) = 0)
def st_oc (W : Nat → Int32) (x : Int32) : Bool := st_al (st_oP W x) 8 0
theorem st_oP_t {W : Nat → Int32} {x : Int32} {s : Nat} (h : st_g x s = 0) : st_oP W x s = true := by
  unfold st_oP; rw [decide_eq_true h]; rfl
theorem st_oP_f {W : Nat → Int32} {x : Int32} {s : Nat} (h : ¬ st_g x s = 0) : st_oP W x s = decide (((x &&& W s) &&& (st_bit s ^^^ (-1))) = 0) := by
  unfold st_oP; rw [decide_eq_false h]; rfl
theorem st_ac (x y z : Int32) : (x &&& y) &&& z = (x &&& z) &&& y := by
  apply b_ext
  intro i _
  rw [b_and, b_and, b_and, b_and, Bool.and_assoc, Bool.and_comm (bt y i), Bool.and_assoc]
theorem st_xoc (c x : Int32) {W : Nat → Int32} (ht : ∀ j, j < 8 → t j = W j) (post : Int32 → Prop) : ∀ d i : Nat, i + d = 8 → post (st_b (st_al (st_oP W x) d i)) → wX_isOneColour_2 post x c p m t f (d + 1) (nI i) := by
  intro d
  induction d with
  | zero =>
    intro i hi hp
    obtain rfl : i = 8 := by omega
    exact br_t (by decide) hp
  | succ d ih =>
    intro i hi hp
    have hp' : post (st_b (st_oP W x i && st_al (st_oP W x) d (i + 1))) := hp
    have e : t (nI i).toNatClampNeg = W i := by rw [nI_clamp (by omega)]; exact ht i (by omega)
    refine br_f (nI_ge (b := 8) (by omega) (by decide)) (nm_e ?_)
    by_cases h : st_g x i = 0
    · rw [st_oP_t h, Bool.true_and] at hp'
      exact br_t h (nm_r (nI_1 i) (ih (i + 1) (by omega) hp'))
    · rw [st_oP_f h] at hp'
      refine br_f h ⟨vp_in_nI (by omega) (by decide), ?_⟩
      have e2 : (x &&& (((1 : Int32) <<< (nI i &&& 31)) ^^^ (-1))) &&& t (nI i).toNatClampNeg = (x &&& W i) &&& (st_bit i ^^^ (-1)) := by
        rw [e, st_ac]; rfl
      by_cases h2 : ((x &&& W i) &&& (st_bit i ^^^ (-1))) = 0
      · rw [decide_eq_true h2, Bool.true_and] at hp'
        exact br_t (e2.trans h2) (nm_r (nI_1 i) (ih (i + 1) (by omega) hp'))
      · rw [decide_eq_false h2, Bool.false_and] at hp'
        exact br_f (fun z => h2 (e2.symm.trans z)) hp'
theorem st_xoo (c x : Int32) {W : Nat → Int32} (ht : ∀ j, j < 8 → t j = W j) {post : Int32 → Prop} (hp : post (st_b (st_oc W x))) : wpX_isOneColour post (c, p, m, t, f) x :=
  ⟨9, st_xoc c x ht post 8 0 rfl hp⟩
theorem st_yoc (c x : Int32) {W : Nat → Int32} (ht : ∀ j, j < 8 → ma j = W j) (post : Int32 → Prop) : ∀ d i : Nat, i + d = 8 → ∀ b : Bool, post (st_b (b && st_al (st_oP W x) d i)) → wY_strangers_4 post x c p m ma al le (d + 1) (st_b b) (nI i) := by
  intro d
  induction d with
  | zero =>
    intro i hi b hp
    obtain rfl : i = 8 := by omega
    refine br_t (by decide) ⟨st_nb b, ?_⟩
    have hp' : post (st_b (b && true)) := hp
    rw [Bool.and_true] at hp'
    exact hp'
  | succ d ih =>
    intro i hi b hp
    have hp' : post (st_b (b && (st_oP W x i && st_al (st_oP W x) d (i + 1)))) := hp
    have e : ma (nI i).toNatClampNeg = W i := by rw [nI_clamp (by omega)]; exact ht i (by omega)
    refine br_f (nI_ge (b := 8) (by omega) (by decide)) ?_
    by_cases h : st_g x i = 1
    · rw [st_oP_f ((st_g1 _ _).mp h)] at hp'
      refine br_t h ?_
      cases b with
      | false => exact br_t rfl (nm_r (nI_1 i) (ih (i + 1) (by omega) false hp'))
      | true =>
        rw [Bool.true_and] at hp'
        refine br_f (by decide) ⟨vp_in_nI (by omega) (by decide), ?_⟩
        by_cases h2 : ((x &&& W i) &&& (st_bit i ^^^ (-1))) = 0
        · rw [decide_eq_true h2] at hp'
          exact br_t (by rw [e]; exact h2) (nm_r (nI_1 i) (ih (i + 1) (by omega) true hp'))
        · rw [decide_eq_false h2] at hp'
          exact br_f (by rw [e]; exact h2) (nm_r (nI_1 i) (ih (i + 1) (by omega) false hp'))
    · have h' : st_g x i = 0 := Classical.byContradiction (fun z => h ((st_g1 _ _).mpr z))
      rw [st_oP_t h', Bool.true_and] at hp'
      exact br_f h (nm_r (nI_1 i) (ih (i + 1) (by omega) b hp'))
theorem st_yoo (c x : Int32) {W : Nat → Int32} (ht : ∀ j, j < 8 → ma j = W j) {post : Int32 → Prop} (hp : post (st_b (st_oc W x))) : wpY_strangers post (c, p, m, ma, al, le) x :=
  ⟨9, st_yoc c x ht post 8 0 rfl true hp⟩
end
