section
/-! pasted from kit/rows -/
theorem pk_us {f : Nat → Int32} {k : Nat} {x : Int32} : upd f k x k = x := if_pos rfl
theorem pk_un {f : Nat → Int32} {k j : Nat} {x : Int32} (h : j ≠ k) : upd f k x j = f j := if_neg h
theorem pk_mul (a b : Nat) : nI a * nI b = nI (a * b) := (Int32.ofNat_mul a b).symm
theorem pk_ix (x : Int32) {n : Nat} (hn : n < 2 ^ 31) : x < 0 ∨ nI n ≤ x ∨ ∃ j : Nat, j < n ∧ x = nI j := by
  by_cases h : x < 0
  · exact Or.inl h
  · obtain ⟨j, hj, rfl⟩ := nI_of h
    by_cases h2 : j < n
    · exact Or.inr (Or.inr ⟨j, h2, rfl⟩)
    · exact Or.inr (Or.inl (nI_le (by omega) hj))
theorem pk_in {x : Int32} (n N : Nat) (h : n < N) (hx : x = nI n := by rfl) (hN : N < 2 ^ 31 := by omega) : vp_in x N := by
  subst hx
  exact vp_in_nI h hN
theorem pk_cl {x : Int32} (n : Nat) (hx : x = nI n := by rfl) (h : n < 2 ^ 31 := by omega) : x.toNatClampNeg = n := by
  subst hx
  exact nI_clamp h
theorem pk_tn {n : Nat} (h : n < 2 ^ 32) : (nI n).toBitVec.toNat = n := Nat.mod_eq_of_lt h
theorem pk_and (x : Int32) {m : Int32} (k : Nat) (hm : m.toBitVec.toNat = 2 ^ k - 1) : x &&& m = nI (x.toBitVec.toNat % 2 ^ k) := by
  apply Int32.toBitVec_inj.mp
  apply BitVec.eq_of_toNat_eq
  rw [Int32.toBitVec_and, BitVec.toNat_and, hm, Nat.and_two_pow_sub_one_eq_mod]
  show _ = (BitVec.ofNat 32 _).toNat
  rw [BitVec.toNat_ofNat]
  exact (Nat.mod_eq_of_lt (Nat.lt_of_le_of_lt (Nat.mod_le _ _) x.toBitVec.isLt)).symm
theorem pk_andE (x : Int32) {m : Int32} (k : Nat) (hm : m.toBitVec.toNat = 2 ^ k - 1) : ∃ j : Nat, j < 2 ^ k ∧ x &&& m = nI j := ⟨_, Nat.mod_lt _ (Nat.two_pow_pos k), pk_and x k hm⟩
def bt (x : Int32) (i : Nat) : Bool := x.toBitVec.getLsbD i
theorem b_ext {x y : Int32} (h : ∀ i, i < 32 → bt x i = bt y i) : x = y := Int32.toBitVec_inj.mp (BitVec.eq_of_getLsbD_eq (fun i hi => h i hi))
theorem b_or (x y : Int32) (i : Nat) : bt (x ||| y) i = (bt x i || bt y i) := by unfold bt; rw [Int32.toBitVec_or, BitVec.getLsbD_or]
theorem b_and (x y : Int32) (i : Nat) : bt (x &&& y) i = (bt x i && bt y i) := by unfold bt; rw [Int32.toBitVec_and, BitVec.getLsbD_and]
theorem b_xor (x y : Int32) (i : Nat) : bt (x ^^^ y) i = (bt x i ^^ bt y i) := by unfold bt; rw [Int32.toBitVec_xor, BitVec.getLsbD_xor]
theorem b_big {x : Int32} {i : Nat} (h : 32 ≤ i) : bt x i = false := BitVec.getLsbD_of_ge _ _ h
theorem b_255 (i : Nat) : bt 255 i = decide (i < 8) := by
  rcases Nat.lt_or_ge i 32 with h | h
  · exact (by decide +kernel : ∀ i, i < 32 → bt 255 i = decide (i < 8)) i h
  · rw [b_big h, decide_eq_false (by omega)]
theorem b_m1 : ∀ i, i < 32 → bt (-1) i = true := by decide +kernel
theorem b_0 (i : Nat) : bt 0 i = false := BitVec.getLsbD_zero
theorem s_l : ∀ n, n < 32 → ((nI n &&& 31).toBitVec.smod 32).toNat = n := by decide +kernel
theorem b_shl (n : Nat) (hn : n < 32) (x : Int32) {i : Nat} (hi : i < 32) : bt (x <<< (nI n &&& 31)) i = (decide (n ≤ i) && bt x (i - n)) := by
  unfold bt
  rw [Int32.toBitVec_shiftLeft]
  show (x.toBitVec <<< ((nI n &&& 31).toBitVec.smod 32).toNat).getLsbD i = _
  rw [s_l n hn, BitVec.getLsbD_shiftLeft]
  rcases Nat.lt_or_ge i n with h | h
  · simp [h, Nat.not_le.mpr h]
  · simp [hi, h, Nat.not_lt.mpr h]
theorem b_sshr (n : Nat) (hn : n < 32) (x : Int32) {i : Nat} (hi : i < 32) : bt (x >>> (nI n &&& 31)) i = if n + i < 32 then bt x (n + i) else bt x 31 := by
  unfold bt
  rw [Int32.toBitVec_shiftRight]
  show (x.toBitVec.sshiftRight ((nI n &&& 31).toBitVec.smod 32).toNat).getLsbD i = _
  rw [s_l n hn, BitVec.getLsbD_sshiftRight, BitVec.msb_eq_getLsbD_last]
  simp [hi]
/-! ===== the pure picture ===== -/
/-- a class's number below n, or -1 -/
def st_PV (n : Nat) (x : Int32) : Prop := x = -1 ∨ ∃ j : Nat, j < n ∧ x = nI j
/-- what both sides keep alike: n classes, their parents p, their methods m -/
def st_Ok (n : Nat) (p m : Nat → Int32) : Prop := n ≤ 10 ∧ (∀ j, j < n → st_PV n (p j)) ∧ (∀ j, ¬ m j < 0)
/-- the owner of selector s on the way up from x, in at most d steps -/
def st_ow (p m : Nat → Int32) (s : Nat) : Nat → Int32 → Int32
  | 0, _ => -1
  | d + 1, x => if x = -1 then -1 else if m (x.toNatClampNeg * 8 + s) = 0 then st_ow p m s d (p x.toNatClampNeg) else x
/-- a ||| g i ||| g (i + 1) .., d of them -/
def st_or (g : Nat → Int32) : Nat → Nat → Int32 → Int32
  | 0, _, a => a
  | d + 1, i, a => st_or g d (i + 1) (a ||| g i)
def st_su (g : Nat → Int32) : Nat → Nat → Int32 → Int32
  | 0, _, a => a
  | d + 1, i, a => st_su g d (i + 1) (a + g i)
def st_al (P : Nat → Bool) : Nat → Nat → Bool
  | 0, _ => true
  | d + 1, i => P i && st_al P d (i + 1)
def st_b (b : Bool) : Int32 := if b = true then 1 else 0
def st_bit (s : Nat) : Int32 := (1 : Int32) <<< (nI s &&& 31)
/-- bit s of x, as 0 or 1 -/
def st_g (x : Int32) (s : Nat) : Int32 := (x >>> (nI s &&& 31)) &&& 1
/-- the selectors that class x understands -/
def st_un (p m : Nat → Int32) (x : Int32) : Int32 := st_or (fun s => if st_ow p m s 10 x = -1 then 0 else st_bit s) 8 0 0
/-- what is understood beside s -/
def st_wi (n : Nat) (p m : Nat → Int32) (s : Nat) : Int32 := st_or (fun c => if st_g (st_un p m (nI c)) s = 0 then 0 else st_un p m (nI c)) n 0 0
theorem st_8 : (8 : Int32) = nI 8 := rfl
theorem st_nn {j : Nat} (hj : j < 10) : ¬ nI j = -1 := by
  intro h
  have h2 := nI_pos (n := j) (by omega)
  rw [h] at h2
  exact h2 (by decide)
theorem st_ix (j s : Nat) : nI j * 8 + nI s = nI (j * 8 + s) := by
  rw [st_8, pk_mul, nI_add]
theorem st_ix' (j s : Nat) : 8 * nI j + nI s = nI (j * 8 + s) := by
  rw [st_8, pk_mul, nI_add, Nat.mul_comm]
theorem st_m1 : (-1 : Int32) < 0 := by decide
theorem st_pl {n : Nat} {x : Int32} (hn : n ≤ 10) (h : st_PV n x) : x < 0 ↔ x = -1 := by
  rcases h with rfl | ⟨j, hj, rfl⟩
  · exact ⟨fun _ => rfl, fun _ => st_m1⟩
  · exact ⟨fun h => absurd h (nI_pos (by omega)), fun h => absurd h (st_nn (by omega))⟩
theorem st_ow_n (p m : Nat → Int32) (s d : Nat) : st_ow p m s d (-1) = -1 := by
  cases d with
  | zero => rfl
  | succ d => exact if_pos rfl
theorem st_ow_t {p m : Nat → Int32} {s j : Nat} (d : Nat) (hj : j < 10) (h : m (j * 8 + s) = 0) : st_ow p m s (d + 1) (nI j) = st_ow p m s d (p j) := by
  have e : (nI j).toNatClampNeg = j := nI_clamp (by omega)
  show (if nI j = -1 then -1 else if m ((nI j).toNatClampNeg * 8 + s) = 0 then st_ow p m s d (p (nI j).toNatClampNeg) else nI j) = _
  rw [if_neg (st_nn hj), e, if_pos h]
theorem st_ow_f {p m : Nat → Int32} {s j : Nat} (d : Nat) (hj : j < 10) (h : ¬ m (j * 8 + s) = 0) : st_ow p m s (d + 1) (nI j) = nI j := by
  have e : (nI j).toNatClampNeg = j := nI_clamp (by omega)
  show (if nI j = -1 then -1 else if m ((nI j).toNatClampNeg * 8 + s) = 0 then st_ow p m s d (p (nI j).toNatClampNeg) else nI j) = _
  rw [if_neg (st_nn hj), e, if_neg h]
theorem st_ow_pv {n : Nat} {p m : Nat → Int32} (ok : st_Ok n p m) (s : Nat) : ∀ (d : Nat) (x : Int32), st_PV n x → st_PV n (st_ow p m s d x) := by
  intro d
  induction d with
  | zero => intro x _; exact Or.inl rfl
  | succ d ih =>
    intro x hx
    rcases hx with rfl | ⟨j, hj, rfl⟩
    · rw [st_ow_n]; exact Or.inl rfl
    · have hj10 : j < 10 := Nat.lt_of_lt_of_le hj ok.1
      by_cases h : m (j * 8 + s) = 0
      · rw [st_ow_t d hj10 h]; exact ih _ (ok.2.1 j hj)
      · rw [st_ow_f d hj10 h]; exact Or.inr ⟨j, hj, rfl⟩
theorem st_ow_df {n : Nat} {p m : Nat → Int32} (ok : st_Ok n p m) (s : Nat) {c : Nat} (hc : c < 10) : ∀ (d : Nat) (x : Int32), st_PV n x → st_ow p m s d x = nI c → ¬ m (c * 8 + s) = 0 := by
  intro d
  induction d with
  | zero => intro x _ h; exact absurd h.symm (st_nn hc)
  | succ d ih =>
    intro x hx hr
    rcases hx with rfl | ⟨j, hj, rfl⟩
    · rw [st_ow_n] at hr; exact absurd hr.symm (st_nn hc)
    · have hj10 : j < 10 := Nat.lt_of_lt_of_le hj ok.1
      by_cases h : m (j * 8 + s) = 0
      · rw [st_ow_t d hj10 h] at hr; exact ih _ (ok.2.1 j hj) hr
      · rw [st_ow_f d hj10 h, nI_eq (by omega) (by omega)] at hr
        rw [← hr]; exact h
theorem st_01 (y : Int32) : y &&& 1 = 0 ∨ y &&& 1 = 1 := by
  obtain ⟨j, hj, e⟩ := pk_andE y (m := 1) 1 (by decide)
  rw [e]
  rcases j with _ | _ | j
  · exact Or.inl rfl
  · exact Or.inr rfl
  · omega
theorem st_g1 (x : Int32) (s : Nat) : st_g x s = 1 ↔ ¬ st_g x s = 0 := by
  rcases st_01 (x >>> (nI s &&& 31)) with h | h
  · constructor
    · intro h1 h2; exact absurd (h1.symm.trans h2) (by decide)
    · intro h1; exact absurd h h1
  · constructor
    · intro h1 h2; exact absurd (h1.symm.trans h2) (by decide)
    · intro h1; exact h
theorem st_gb (x : Int32) {s : Nat} (hs : s < 32) : st_g x s = 0 ↔ bt x s = false := by
  have e : bt (st_g x s) 0 = bt x s := by
    unfold st_g
    rw [b_and, b_sshr s hs x (by omega), if_pos (by omega), Nat.add_zero, show bt 1 0 = true from by decide, Bool.and_true]
  constructor
  · intro h; rw [← e, h]; exact b_0 0
  · intro h
    rcases st_01 (x >>> (nI s &&& 31)) with h1 | h1
    · exact h1
    · have h2 : st_g x s = 1 := h1
      rw [h2] at e
      rw [h] at e
      exact absurd e (by decide)
theorem st_or_bt (g : Nat → Int32) (k : Nat) : ∀ (d i : Nat) (a : Int32), bt (st_or g d i a) k = true ↔ (bt a k = true ∨ ∃ j, i ≤ j ∧ j < i + d ∧ bt (g j) k = true) := by
  intro d
  induction d with
  | zero =>
    intro i a
    exact ⟨fun h => Or.inl h, fun h => h.elim id (fun ⟨j, h1, h2, _⟩ => by omega)⟩
  | succ d ih =>
    intro i a
    show bt (st_or g d (i + 1) (a ||| g i)) k = true ↔ _
    rw [ih, b_or, Bool.or_eq_true]
    constructor
    · rintro ((h | h) | ⟨j, h1, h2, h3⟩)
      · exact Or.inl h
      · exact Or.inr ⟨i, by omega, by omega, h⟩
      · exact Or.inr ⟨j, by omega, by omega, h3⟩
    · rintro (h | ⟨j, h1, h2, h3⟩)
      · exact Or.inl (Or.inl h)
      · by_cases e : j = i
        · rw [e] at h3; exact Or.inl (Or.inr h3)
        · exact Or.inr ⟨j, by omega, by omega, h3⟩
theorem st_or_0 {g : Nat → Int32} : ∀ (d i : Nat) (a : Int32), (∀ j, i ≤ j → j < i + d → g j = 0) → st_or g d i a = a := by
  intro d
  induction d with
  | zero => intro i a _; rfl
  | succ d ih =>
    intro i a h
    show st_or g d (i + 1) (a ||| g i) = a
    rw [h i (by omega) (by omega), Int32.or_zero]
    exact ih (i + 1) a (fun j h1 h2 => h j (by omega) (by omega))
theorem st_or_cg {g g' : Nat → Int32} : ∀ (d i : Nat) (a : Int32), (∀ j, i ≤ j → j < i + d → g j = g' j) → st_or g d i a = st_or g' d i a := by
  intro d
  induction d with
  | zero => intro i a _; rfl
  | succ d ih =>
    intro i a h
    show st_or g d (i + 1) (a ||| g i) = st_or g' d (i + 1) (a ||| g' i)
    rw [h i (by omega) (by omega)]
    exact ih (i + 1) _ (fun j h1 h2 => h j (by omega) (by omega))
theorem st_bit_b : ∀ s, s < 8 → ∀ k, k < 32 → bt (st_bit s) k = true → k < 8 := by decide +kernel
theorem st_un_b (p m : Nat → Int32) (x : Int32) {k : Nat} (h : bt (st_un p m x) k = true) : k < 8 := by
  have hk : k < 32 := by
    rcases Nat.lt_or_ge k 32 with h1 | h1
    · exact h1
    · rw [b_big h1] at h; exact absurd h (by decide)
  unfold st_un at h
  rw [st_or_bt] at h
  rcases h with h | ⟨j, h1, h2, h3⟩
  · rw [b_0] at h; exact absurd h (by decide)
  · split at h3
    · rw [b_0] at h3; exact absurd h3 (by decide)
    · exact st_bit_b j (by omega) k hk h3
/-- all that is understood -/
def st_us (n : Nat) (p m : Nat → Int32) : Int32 := st_or (fun c => st_un p m (nI c)) n 0 0
theorem st_wi_bt (n : Nat) (p m : Nat → Int32) {s : Nat} (hs : s < 8) (k : Nat) : bt (st_wi n p m s) k = true ↔ ∃ c, c < n ∧ bt (st_un p m (nI c)) s = true ∧ bt (st_un p m (nI c)) k = true := by
  unfold st_wi
  rw [st_or_bt]
  constructor
  · rintro (h | ⟨j, h1, h2, h3⟩)
    · rw [b_0] at h; exact absurd h (by decide)
    · split at h3
      · rw [b_0] at h3; exact absurd h3 (by decide)
      · rename_i hg
        refine ⟨j, by omega, ?_, h3⟩
        rw [st_gb _ (by omega)] at hg
        exact (Bool.not_eq_false _).mp hg
  · rintro ⟨c, h1, h2, h3⟩
    refine Or.inr ⟨c, by omega, by omega, ?_⟩
    rw [if_neg]
    · exact h3
    · rw [st_gb _ (by omega), h2]; decide
theorem st_us_eq (n : Nat) (p m : Nat → Int32) : st_or (st_wi n p m) 8 0 0 = st_us n p m := by
  apply b_ext
  intro k _
  apply Bool.eq_iff_iff.mpr
  unfold st_us
  rw [st_or_bt, st_or_bt]
  constructor
  · rintro (h | ⟨s, h1, h2, h3⟩)
    · exact Or.inl h
    · rw [st_wi_bt n p m (by omega)] at h3
      obtain ⟨c, c1, c2, c3⟩ := h3
      exact Or.inr ⟨c, by omega, by omega, c3⟩
  · rintro (h | ⟨c, h1, h2, h3⟩)
    · exact Or.inl h
    · have hk := st_un_b p m _ h3
      refine Or.inr ⟨k, by omega, by omega, ?_⟩
      rw [st_wi_bt n p m hk]
      exact ⟨c, by omega, h3, h3⟩
theorem st_us_n (n : Nat) (p m : Nat → Int32) : ∃ U, U < 256 ∧ st_us n p m = nI U := by
  have e : st_us n p m = st_us n p m &&& 255 := by
    apply b_ext
    intro k _
    rw [b_and, b_255]
    apply Bool.eq_iff_iff.mpr
    rw [Bool.and_eq_true]
    constructor
    · intro h
      refine ⟨h, ?_⟩
      unfold st_us at h
      rw [st_or_bt] at h
      rcases h with h | ⟨c, h1, h2, h3⟩
      · rw [b_0] at h; exact absurd h (by decide)
      · exact decide_eq_true (st_un_b p m _ h3)
    · exact fun h => h.1
  obtain ⟨j, hj, h⟩ := pk_andE (st_us n p m) (m := 255) 8 (by decide)
  exact ⟨j, hj, e.trans h⟩
end
section
/-! ===== is a class, is a selector ===== -/
section
variable {n : Nat} {p m t f ma al le : Nat → Int32}
theorem st_xc_i {j : Nat} {post : Int32 → Prop} (hj : j < n) (hn : n ≤ 10) (h : post 1) : wpX_isClass post (nI n, p, m, t, f) (nI j) :=
  br_f (nI_pos (by omega)) (br_f (nI_ge hj (by omega)) h)
theorem st_xc_o {x : Int32} {post : Int32 → Prop} (hx : x < 0 ∨ nI n ≤ x) (h : post 0) : wpX_isClass post (nI n, p, m, t, f) x := by
  by_cases h0 : x < 0
  · exact br_t h0 h
  · exact br_f h0 (br_t (hx.resolve_left h0) h)
theorem st_yc_i {j : Nat} {post : Int32 → Prop} (hj : j < n) (hn : n ≤ 10) (h : post 1) : wpY_is post (nI n, p, m, ma, al, le) (nI j) :=
  br_f (nI_pos (by omega)) (br_f (nI_ge hj (by omega)) h)
theorem st_yc_o {x : Int32} {post : Int32 → Prop} (hx : x < 0 ∨ nI n ≤ x) (h : post 0) : wpY_is post (nI n, p, m, ma, al, le) x := by
  by_cases h0 : x < 0
  · exact br_t h0 h
  · exact br_f h0 (br_t (hx.resolve_left h0) h)
theorem st_xs_i {u : SX} {s : Nat} {post : Int32 → Prop} (hs : s < 8) (h : post 1) : wpX_isSelector post u (nI s) := by
  obtain ⟨c, a1, a2, a3, a4⟩ := u
  exact br_f (nI_pos (by omega)) (br_f (nI_ge (b := 8) hs (by decide)) h)
theorem st_xs_o {u : SX} {y : Int32} {post : Int32 → Prop} (hy : y < 0 ∨ nI 8 ≤ y) (h : post 0) : wpX_isSelector post u y := by
  obtain ⟨c, a1, a2, a3, a4⟩ := u
  by_cases h0 : y < 0
  · exact br_t h0 h
  · exact br_f h0 (br_t (hy.resolve_left h0) h)
theorem st_ny {x : Int32} (h : x < 0 ∨ nI n ≤ x) (hn : n ≤ 10) {j : Nat} (hj : j < n) : ¬ x = nI j := by
  rintro rfl
  rcases h with h | h
  · exact nI_pos (by omega) h
  · exact nI_ge hj (by omega) h
theorem st_7 {s : Nat} (hs : s < 8) : nI s ≤ 7 := nI_le (b := 7) (by omega) (by decide)
theorem st_n7 {y : Int32} (h : nI 8 ≤ y) : ¬ y ≤ 7 := by
  intro h1
  exact absurd (Int32.le_trans h h1) (by decide)
/-! ===== the way up ===== -/
theorem st_xow (ok : st_Ok n p m) {s : Nat} (hs : s < 8) (post : Int32 → Prop) : ∀ d i : Nat, i + d = 10 → ∀ x : Int32, st_PV n x → post (st_ow p m s d x) → wX_ownerFrom_5 post (nI s) (nI n) p m t f (d + 1) x (nI i) := by
  intro d
  induction d with
  | zero =>
    intro i hi x hx hp
    obtain rfl : i = 10 := by omega
    exact br_t (by decide) hp
  | succ d ih =>
    intro i hi x hx hp
    refine br_f (nI_ge (b := 10) (by omega) (by decide)) ?_
    rcases hx with rfl | ⟨j, hj, rfl⟩
    · exact br_t rfl hp
    · have hj10 : j < 10 := Nat.lt_of_lt_of_le hj ok.1
      have e1 : nI j * 8 + nI s = nI (j * 8 + s) := st_ix j s
      have e2 : (nI j * 8 + nI s).toNatClampNeg = j * 8 + s := by rw [e1]; exact nI_clamp (by omega)
      have e3 : (nI j).toNatClampNeg = j := nI_clamp (by omega)
      refine br_f (st_nn hj10) ⟨pk_in (j * 8 + s) 80 (by omega) e1, ?_⟩
      by_cases h : m (j * 8 + s) = 0
      · rw [st_ow_t d hj10 h] at hp
        exact br_t (by rw [e2]; exact h) ⟨vp_in_nI hj10 (by decide), nm_r (congrArg p e3) (nm_r (nI_1 i) (ih (i + 1) (by omega) _ (ok.2.1 j hj) hp))⟩
      · rw [st_ow_f d hj10 h] at hp
        exact br_f (by rw [e2]; exact h) hp
theorem st_xo (ok : st_Ok n p m) {s : Nat} (hs : s < 8) {post : Int32 → Prop} {x : Int32} (hx : st_PV n x) (hp : post (st_ow p m s 10 x)) : wpX_ownerFrom post (nI n, p, m, t, f) x (nI s) :=
  ⟨11, st_xow ok hs post 10 0 rfl x hx hp⟩
theorem st_m0 (ok : st_Ok n p m) (k : Nat) : m k ≤ 0 ↔ m k = 0 := by
  constructor
  · intro h
    exact Int32.le_antisymm h (Int32.not_lt.mp (ok.2.2 k))
  · intro h; rw [h]; decide
theorem st_yow (ok : st_Ok n p m) {s : Nat} (hs : s < 8) (post : Int32 → Prop) : ∀ d i : Nat, i + d = 10 → ∀ x : Int32, st_PV n x → post (st_ow p m s d x) → wY_owner_25 post (nI s) (nI n) p m ma al le (d + 1) x (nI i) := by
  intro d
  induction d with
  | zero =>
    intro i hi x hx hp
    obtain rfl : i = 10 := by omega
    exact br_t (by decide) hp
  | succ d ih =>
    intro i hi x hx hp
    refine br_f (nI_ge (b := 10) (by omega) (by decide)) ?_
    rcases hx with rfl | ⟨j, hj, rfl⟩
    · exact br_t st_m1 hp
    · have hj10 : j < 10 := Nat.lt_of_lt_of_le hj ok.1
      have e1 : 8 * nI j + nI s = nI (j * 8 + s) := st_ix' j s
      have e2 : (8 * nI j + nI s).toNatClampNeg = j * 8 + s := by rw [e1]; exact nI_clamp (by omega)
      have e3 : (nI j).toNatClampNeg = j := nI_clamp (by omega)
      refine br_f (nI_pos (by omega)) ⟨pk_in (j * 8 + s) 80 (by omega) e1, ?_⟩
      by_cases h : m (j * 8 + s) = 0
      · rw [st_ow_t d hj10 h] at hp
        exact br_t (by rw [e2, st_m0 ok]; exact h) ⟨vp_in_nI hj10 (by decide), nm_r (congrArg p e3) (nm_r (nI_1 i) (ih (i + 1) (by omega) _ (ok.2.1 j hj) hp))⟩
      · rw [st_ow_f d hj10 h] at hp
        exact br_f (by rw [e2, st_m0 ok]; exact h) hp
theorem st_yo (ok : st_Ok n p m) {s j : Nat} (hs : s < 8) {post : Int32 → Prop} (hj : j < n) (hp : post (st_ow p m s 10 (nI j))) : wpY_owner post (nI n, p, m, ma, al, le) (nI j) (nI s) := by
  unfold wpY_owner
  refine st_yc_i hj ok.1 (br_f (by decide) (br_f (nI_pos (by omega)) (br_t (st_7 hs) ⟨11, ?_⟩)))
  exact st_yow ok hs post 10 0 rfl _ (Or.inr ⟨j, hj, rfl⟩) hp
theorem st_yo_c {post : Int32 → Prop} {x : Int32} (hx : x < 0 ∨ nI n ≤ x) (y : Int32) (hp : post (-1)) : wpY_owner post (nI n, p, m, ma, al, le) x y := by
  unfold wpY_owner
  exact st_yc_o hx (br_t rfl hp)
theorem st_yo_s (hn : n ≤ 10) {post : Int32 → Prop} {j : Nat} (hj : j < n) {y : Int32} (hy : y < 0 ∨ nI 8 ≤ y) (hp : post (-1)) : wpY_owner post (nI n, p, m, ma, al, le) (nI j) y := by
  unfold wpY_owner
  refine st_yc_i hj hn (br_f (by decide) ?_)
  by_cases h0 : y < 0
  · exact br_t h0 hp
  · exact br_f h0 (br_f (st_n7 (hy.resolve_left h0)) hp)
/-! ===== what a class understands ===== -/
theorem st_xun (ok : st_Ok n p m) {x : Int32} (hx : st_PV n x) (post : Int32 → Prop) : ∀ d i : Nat, i + d = 8 → ∀ a : Int32, post (st_or (fun s => if st_ow p m s 10 x = -1 then 0 else st_bit s) d i a) → wX_selectorsOf_4 post x (nI n) p m t f (d + 1) a (nI i) := by
  intro d
  induction d with
  | zero =>
    intro i hi a hp
    obtain rfl : i = 8 := by omega
    exact br_t (by decide) hp
  | succ d ih =>
    intro i hi a hp
    have hp' : post (st_or (fun s => if st_ow p m s 10 x = -1 then 0 else st_bit s) d (i + 1) (a ||| (if st_ow p m i 10 x = -1 then 0 else st_bit i))) := hp
    refine br_f (nI_ge (b := 8) (by omega) (by decide)) (st_xo ok (by omega) hx (br_c (fun h => ?_) (fun h => ?_)))
    · rw [if_pos h, Int32.or_zero] at hp'
      exact nm_r (nI_1 i) (ih (i + 1) (by omega) a hp')
    · rw [if_neg h] at hp'
      exact nm_e (nm_r (nI_1 i) (ih (i + 1) (by omega) _ hp'))
theorem st_xu (ok : st_Ok n p m) {x : Int32} (hx : st_PV n x) {post : Int32 → Prop} (hp : post (st_un p m x)) : wpX_selectorsOf post (nI n, p, m, t, f) x :=
  ⟨9, st_xun ok hx post 8 0 rfl 0 hp⟩
theorem st_yun {x : Int32} {g : Nat → Int32} (hg : ∀ s, s < 8 → ∀ post : Int32 → Prop, post (g s) → wpY_owner post (nI n, p, m, ma, al, le) x (nI s)) (post : Int32 → Prop) : ∀ d i : Nat, i + d = 8 → ∀ a : Int32, post (st_or (fun s => if g s < 0 then 0 else st_bit s) d i a) → wY_understands_4 post x (nI n) p m ma al le (d + 1) a (nI i) := by
  intro d
  induction d with
  | zero =>
    intro i hi a hp
    obtain rfl : i = 8 := by omega
    exact br_t (by decide) hp
  | succ d ih =>
    intro i hi a hp
    have hp' : post (st_or (fun s => if g s < 0 then 0 else st_bit s) d (i + 1) (a ||| (if g i < 0 then 0 else st_bit i))) := hp
    refine br_f (nI_ge (b := 8) (by omega) (by decide)) (hg i (by omega) _ (br_c (fun h => ?_) (fun h => ?_)))
    · rw [if_pos h] at hp'
      exact nm_e (nm_r (nI_1 i) (ih (i + 1) (by omega) _ hp'))
    · rw [if_neg h] at hp'
      exact nm_e (nm_r (nI_1 i) (ih (i + 1) (by omega) _ hp'))
theorem st_yu (ok : st_Ok n p m) {j : Nat} (hj : j < n) {post : Int32 → Prop} (hp : post (st_un p m (nI j))) : wpY_understands post (nI n, p, m, ma, al, le) (nI j) := by
  refine ⟨9, st_yun (g := fun s => st_ow p m s 10 (nI j)) (fun s hs post hp => st_yo ok hs hj hp) post 8 0 rfl 0 ?_⟩
  have e : st_or (fun s => if st_ow p m s 10 (nI j) < 0 then 0 else st_bit s) 8 0 0 = st_un p m (nI j) := by
    refine st_or_cg 8 0 0 (fun s _ _ => ?_)
    have h := st_pl ok.1 (st_ow_pv ok s 10 (nI j) (Or.inr ⟨j, hj, rfl⟩))
    by_cases h1 : st_ow p m s 10 (nI j) = -1
    · rw [if_pos (h.mpr h1), if_pos h1]
    · rw [if_neg (fun z => h1 (h.mp z)), if_neg h1]
  rw [e]
  exact hp
theorem st_yu_o {x : Int32} (hx : x < 0 ∨ nI n ≤ x) {post : Int32 → Prop} (hp : post 0) : wpY_understands post (nI n, p, m, ma, al, le) x :=
  ⟨9, st_yun (g := fun _ => -1) (fun s hs post hp => st_yo_c hx _ hp) post 8 0 rfl 0 hp⟩
/-! ===== what is understood beside a selector ===== -/
theorem st_xwi (ok : st_Ok n p m) (s : Nat) (post : Int32 → Prop) : ∀ d i : Nat, i + d = n → ∀ a : Int32, post (st_or (fun c => if st_g (st_un p m (nI c)) s = 0 then 0 else st_un p m (nI c)) d i a) → wX_selectorsBeside_4 post (nI s) (nI n) p m t f (d + 1) a (nI i) := by
  have hn := ok.1
  intro d
  induction d with
  | zero =>
    intro i hi a hp
    exact br_t (nI_le (by omega) (by omega)) hp
  | succ d ih =>
    intro i hi a hp
    have hp' : post (st_or (fun c => if st_g (st_un p m (nI c)) s = 0 then 0 else st_un p m (nI c)) d (i + 1) (a ||| (if st_g (st_un p m (nI i)) s = 0 then 0 else st_un p m (nI i)))) := hp
    refine br_f (nI_ge (by omega) (by omega)) (st_xu ok (Or.inr ⟨i, by omega, rfl⟩) (br_c (fun h => ?_) (fun h => ?_)))
    · have h' : st_g (st_un p m (nI i)) s = 0 := h
      rw [if_pos h', Int32.or_zero] at hp'
      exact nm_r (nI_1 i) (ih (i + 1) (by omega) a hp')
    · have h' : ¬ st_g (st_un p m (nI i)) s = 0 := h
      rw [if_neg h'] at hp'
      exact nm_e (nm_r (nI_1 i) (ih (i + 1) (by omega) _ hp'))
theorem st_xw (ok : st_Ok n p m) (s : Nat) {post : Int32 → Prop} (hp : post (st_wi n p m s)) : wpX_selectorsBeside post (nI n, p, m, t, f) (nI s) :=
  ⟨n + 1, st_xwi ok s post n 0 (Nat.zero_add n) 0 hp⟩
theorem st_ywi (ok : st_Ok n p m) (s : Nat) (post : Int32 → Prop) : ∀ d i : Nat, i + d = n → ∀ a : Int32, post (st_or (fun c => if st_g (st_un p m (nI c)) s = 0 then 0 else st_un p m (nI c)) d i a) → wY_with_4 post (nI s) (nI n) p m ma al le (d + 1) a (nI i) := by
  have hn := ok.1
  intro d
  induction d with
  | zero =>
    intro i hi a hp
    exact br_t (nI_le (by omega) (by omega)) hp
  | succ d ih =>
    intro i hi a hp
    have hp' : post (st_or (fun c => if st_g (st_un p m (nI c)) s = 0 then 0 else st_un p m (nI c)) d (i + 1) (a ||| (if st_g (st_un p m (nI i)) s = 0 then 0 else st_un p m (nI i)))) := hp
    refine br_f (nI_ge (by omega) (by omega)) (st_yu ok (by omega) (br_c (fun h => ?_) (fun h => ?_)))
    · have h' : st_g (st_un p m (nI i)) s = 1 := h
      rw [if_neg ((st_g1 _ _).mp h')] at hp'
      exact nm_e (nm_r (nI_1 i) (ih (i + 1) (by omega) _ hp'))
    · have h' : st_g (st_un p m (nI i)) s = 0 := Classical.byContradiction (fun z => h ((st_g1 _ _).mpr z))
      rw [if_pos h', Int32.or_zero] at hp'
      exact nm_r (nI_1 i) (ih (i + 1) (by omega) a hp')
theorem st_yw (ok : st_Ok n p m) (s : Nat) {post : Int32 → Prop} (hp : post (st_wi n p m s)) : wpY_with post (nI n, p, m, ma, al, le) (nI s) :=
  ⟨n + 1, st_ywi ok s post n 0 (Nat.zero_add n) 0 hp⟩
/-! ===== all that is understood ===== -/
theorem st_xus (ok : st_Ok n p m) (post : Int32 → Prop) : ∀ d i : Nat, i + d = n → ∀ a : Int32, post (st_or (fun c => st_un p m (nI c)) d i a) → wX_selectorsOfAll_4 post (nI n) p m t f (d + 1) a (nI i) := by
  have hn := ok.1
  intro d
  induction d with
  | zero =>
    intro i hi a hp
    exact br_t (nI_le (by omega) (by omega)) hp
  | succ d ih =>
    intro i hi a hp
    exact br_f (nI_ge (by omega) (by omega)) (st_xu ok (Or.inr ⟨i, by omega, rfl⟩) (nm_e (nm_r (nI_1 i) (ih (i + 1) (by omega) _ hp))))
theorem st_xa (ok : st_Ok n p m) {post : Int32 → Prop} (hp : post (st_us n p m)) : wpX_selectorsOfAll post (nI n, p, m, t, f) :=
  ⟨n + 1, st_xus ok post n 0 (Nat.zero_add n) 0 hp⟩
/-! ===== heirs ===== -/
theorem st_xhe (ok : st_Ok n p m) {s : Nat} (hs : s < 8) (c : Int32) (post : Int32 → Prop) : ∀ d i : Nat, i + d = n → ∀ a : Int32, post (st_or (fun k => if st_ow p m s 10 (nI k) = c then st_bit k else 0) d i a) → wX_heirs_16 post c (nI s) (nI n) p m t f (d + 1) a (nI i) := by
  have hn := ok.1
  intro d
  induction d with
  | zero =>
    intro i hi a hp
    exact br_t (nI_le (by omega) (by omega)) hp
  | succ d ih =>
    intro i hi a hp
    have hp' : post (st_or (fun k => if st_ow p m s 10 (nI k) = c then st_bit k else 0) d (i + 1) (a ||| (if st_ow p m s 10 (nI i) = c then st_bit i else 0))) := hp
    refine br_f (nI_ge (by omega) (by omega)) (st_xo ok hs (Or.inr ⟨i, by omega, rfl⟩) (br_c (fun h => ?_) (fun h => ?_)))
    · rw [if_pos h] at hp'
      exact nm_e (nm_r (nI_1 i) (ih (i + 1) (by omega) _ hp'))
    · rw [if_neg h, Int32.or_zero] at hp'
      exact nm_r (nI_1 i) (ih (i + 1) (by omega) a hp')
theorem st_yhe (hn : n ≤ 10) {c : Nat} (hc : c < n) {y : Int32} {g : Nat → Int32} (hg : ∀ k, k < n → ∀ post : Int32 → Prop, post (g k) → wpY_owner post (nI n, p, m, ma, al, le) (nI k) y) (post : Int32 → Prop) : ∀ d i : Nat, i + d = n → ∀ a : Int32, post (st_or (fun k => if g k = nI c then st_bit k else 0) d i a) → wY_heirs_5 post (nI c) y (nI n) p m ma al le (d + 1) a (nI i) := by
  intro d
  induction d with
  | zero =>
    intro i hi a hp
    exact br_t (nI_le (by omega) (by omega)) hp
  | succ d ih =>
    intro i hi a hp
    have hp' : post (st_or (fun k => if g k = nI c then st_bit k else 0) d (i + 1) (a ||| (if g i = nI c then st_bit i else 0))) := hp
    refine br_f (nI_ge (by omega) (by omega)) (st_yc_i hc hn (br_f (by decide) (hg i (by omega) _ (br_c (fun h => ?_) (fun h => ?_)))))
    · rw [if_pos h] at hp'
      exact nm_e (nm_r (nI_1 i) (ih (i + 1) (by omega) _ hp'))
    · rw [if_neg h] at hp'
      exact nm_e (nm_r (nI_1 i) (ih (i + 1) (by omega) _ hp'))
end
end
section
/-! ===== together, mates ===== -/
section
variable {n : Nat} {p m t f ma al le : Nat → Int32}
theorem st_xft (ok : st_Ok n p m) {post : SX → Prop} (hp : ∀ t' : Nat → Int32, (∀ j, j < 8 → t' j = st_wi n p m j) → post (nI n, p, m, t', f)) : ∀ d i : Nat, i + d = 8 → ∀ t : Nat → Int32, (∀ j, j < i → t j = st_wi n p m j) → wX_fillTogether_2 post (nI n) (d + 1) (nI i) p m t f := by
  intro d
  induction d with
  | zero =>
    intro i hi t ht
    obtain rfl : i = 8 := by omega
    exact br_t (by decide) (hp t ht)
  | succ d ih =>
    intro i hi t ht
    have e : (nI i).toNatClampNeg = i := nI_clamp (by omega)
    refine br_f (nI_ge (b := 8) (by omega) (by decide)) (st_xw ok i ⟨vp_in_nI (by omega) (by decide), nm_r (congrArg (fun k => upd t k (st_wi n p m i)) e) (nm_r (nI_1 i) (ih (i + 1) (by omega) _ ?_))⟩)
    intro j hj
    by_cases h : j = i
    · rw [h]; exact pk_us
    · exact (pk_un h).trans (ht j (by omega))
theorem st_xf (ok : st_Ok n p m) {post : SX → Prop} (hp : ∀ t' : Nat → Int32, (∀ j, j < 8 → t' j = st_wi n p m j) → post (nI n, p, m, t', f)) : wpX_fillTogether post (nI n, p, m, t, f) :=
  ⟨9, st_xft ok hp 8 0 rfl t (fun j hj => absurd hj (Nat.not_lt_zero j))⟩
theorem st_yft (ok : st_Ok n p m) {post : SY → Prop} (hp : ∀ t' : Nat → Int32, (∀ j, j < 8 → t' j = st_wi n p m j) → post (nI n, p, m, t', al, le)) : ∀ d i : Nat, i + d = 8 → ∀ t : Nat → Int32, (∀ j, j < i → t j = st_wi n p m j) → wY_findMates_2 post (nI n) (d + 1) (nI i) p m t al le := by
  intro d
  induction d with
  | zero =>
    intro i hi t ht
    obtain rfl : i = 8 := by omega
    exact br_t (by decide) (hp t ht)
  | succ d ih =>
    intro i hi t ht
    have e : (nI i).toNatClampNeg = i := nI_clamp (by omega)
    refine br_f (nI_ge (b := 8) (by omega) (by decide)) (st_yw ok i ⟨vp_in_nI (by omega) (by decide), nm_r (congrArg (fun k => upd t k (st_wi n p m i)) e) (nm_r (nI_1 i) (ih (i + 1) (by omega) _ ?_))⟩)
    intro j hj
    by_cases h : j = i
    · rw [h]; exact pk_us
    · exact (pk_un h).trans (ht j (by omega))
theorem st_yf (ok : st_Ok n p m) {post : SY → Prop} (hp : ∀ t' : Nat → Int32, (∀ j, j < 8 → t' j = st_wi n p m j) → post (nI n, p, m, t', al, le)) : wpY_findMates post (nI n, p, m, ma, al, le) :=
  ⟨9, st_yft ok hp 8 0 rfl ma (fun j hj => absurd hj (Nat.not_lt_zero j))⟩
/-! ===== a set's size ===== -/
def st_sz (x : Int32) : Int32 := st_su (st_g x) 8 0 0
theorem st_xsz (c x : Int32) (post : Int32 → Prop) : ∀ d i : Nat, i + d = 8 → ∀ a : Int32, post (st_su (st_g x) d i a) → wX_sizeOf_4 post x c p m t f (d + 1) a (nI i) := by
  intro d
  induction d with
  | zero =>
    intro i hi a hp
    obtain rfl : i = 8 := by omega
    exact br_t (by decide) hp
  | succ d ih =>
    intro i hi a hp
    exact br_f (nI_ge (b := 8) (by omega) (by decide)) (nm_e (nm_r (nI_1 i) (ih (i + 1) (by omega) _ hp)))
theorem st_ysz (c x : Int32) (post : Int32 → Prop) : ∀ d i : Nat, i + d = 8 → ∀ a : Int32, post (st_su (st_g x) d i a) → wY_sizeOf_4 post x c p m ma al le (d + 1) a (nI i) := by
  intro d
  induction d with
  | zero =>
    intro i hi a hp
    obtain rfl : i = 8 := by omega
    exact br_t (by decide) hp
  | succ d ih =>
    intro i hi a hp
    exact br_f (nI_ge (b := 8) (by omega) (by decide)) (nm_e (nm_r (nI_1 i) (ih (i + 1) (by omega) _ hp)))
theorem st_xz (c x : Int32) {post : Int32 → Prop} (hp : post (st_sz x)) : wpX_sizeOf post (c, p, m, t, f) x :=
  ⟨9, st_xsz c x post 8 0 rfl 0 hp⟩
theorem st_yz (c x : Int32) {post : Int32 → Prop} (hp : post (st_sz x)) : wpY_sizeOf post (c, p, m, ma, al, le) x :=
  ⟨9, st_ysz c x post 8 0 rfl 0 hp⟩
/-! ===== every two together ===== -/
def st_cP (W : Nat → Int32) (x : Int32) (s : Nat) : Bool := decide (st_g x s = 0) || decide ((x &&& (W s ^^^ (-1))) = 0)
def st_cr (W : Nat → Int32) (x : Int32) : Bool := st_al (st_cP W x) 8 0
theorem st_cP_t {W : Nat → Int32} {x : Int32} {s : Nat} (h : st_g x s = 0) : st_cP W x s = true := by
  unfold st_cP; rw [decide_eq_true h]; rfl
theorem st_cP_f {W : Nat → Int32} {x : Int32} {s : Nat} (h : ¬ st_g x s = 0) : st_cP W x s = decide ((x &&& (W s ^^^ (-1))) = 0) := by
  unfold st_cP; rw [decide_eq_false h]; rfl
theorem st_xcr (c x : Int32) {W : Nat → Int32} (ht : ∀ j, j < 8 → t j = W j) (post : Int32 → Prop) : ∀ d i : Nat, i + d = 8 → post (st_b (st_al (st_cP W x) d i)) → wX_isCrowd_2 post x c p m t f (d + 1) (nI i) := by
  intro d
  induction d with
  | zero =>
    intro i hi hp
    obtain rfl : i = 8 := by omega
    exact br_t (by decide) hp
  | succ d ih =>
    intro i hi hp
    have hp' : post (st_b (st_cP W x i && st_al (st_cP W x) d (i + 1))) := hp
    have e : t (nI i).toNatClampNeg = W i := by rw [nI_clamp (by omega)]; exact ht i (by omega)
    refine br_f (nI_ge (b := 8) (by omega) (by decide)) ?_
    by_cases h : st_g x i = 0
    · rw [st_cP_t h, Bool.true_and] at hp'
      exact br_t h (nm_r (nI_1 i) (ih (i + 1) (by omega) hp'))
    · rw [st_cP_f h] at hp'
      refine br_f h ⟨vp_in_nI (by omega) (by decide), ?_⟩
      by_cases h2 : (x &&& (W i ^^^ (-1))) = 0
      · rw [decide_eq_true h2, Bool.true_and] at hp'
        exact br_t (by rw [e]; exact h2) (nm_r (nI_1 i) (ih (i + 1) (by omega) hp'))
      · rw [decide_eq_false h2, Bool.false_and] at hp'
        exact br_f (by rw [e]; exact h2) hp'
theorem st_xr (c x : Int32) {W : Nat → Int32} (ht : ∀ j, j < 8 → t j = W j) {post : Int32 → Prop} (hp : post (st_b (st_cr W x))) : wpX_isCrowd post (c, p, m, t, f) x :=
  ⟨9, st_xcr c x ht post 8 0 rfl hp⟩
theorem st_nb (b : Bool) : narrow .boolean (.int (st_b b)) = .int (st_b b) := by
  cases b <;> rfl
theorem st_b0 : st_b false = 0 := rfl
theorem st_b1 : st_b true = 1 := rfl
theorem st_ycr (c x : Int32) {W : Nat → Int32} (ht : ∀ j, j < 8 → ma j = W j) (post : Int32 → Prop) : ∀ d i : Nat, i + d = 8 → ∀ b : Bool, post (st_b (b && st_al (st_cP W x) d i)) → wY_together_4 post x c p m ma al le (d + 1) (st_b b) (nI i) := by
  intro d
  induction d with
  | zero =>
    intro i hi b hp
    obtain rfl : i = 8 := by omega
    refine br_t (by decide) ⟨st_nb b, ?_⟩
    have hp' : post (st_b (b && true)) := hp
    rw [Bool.and_true] at hp'
    exact hp'
  | succ d ih =>
    intro i hi b hp
    have hp' : post (st_b (b && (st_cP W x i && st_al (st_cP W x) d (i + 1)))) := hp
    have e : ma (nI i).toNatClampNeg = W i := by rw [nI_clamp (by omega)]; exact ht i (by omega)
    refine br_f (nI_ge (b := 8) (by omega) (by decide)) ?_
    by_cases h : st_g x i = 1
    · rw [st_cP_f ((st_g1 _ _).mp h)] at hp'
      refine br_t h ?_
      cases b with
      | false => exact br_t rfl (nm_r (nI_1 i) (ih (i + 1) (by omega) false hp'))
      | true =>
        rw [Bool.true_and] at hp'
        refine br_f (by decide) ⟨vp_in_nI (by omega) (by decide), ?_⟩
        by_cases h2 : (x &&& (W i ^^^ (-1))) = 0
        · rw [decide_eq_true h2] at hp'
          exact br_t (by rw [e]; exact h2) (nm_r (nI_1 i) (ih (i + 1) (by omega) true hp'))
        · rw [decide_eq_false h2] at hp'
          exact br_f (by rw [e]; exact h2) (nm_r (nI_1 i) (ih (i + 1) (by omega) false hp'))
    · have h' : st_g x i = 0 := Classical.byContradiction (fun z => h ((st_g1 _ _).mpr z))
      rw [st_cP_t h', Bool.true_and] at hp'
      exact br_f h (nm_r (nI_1 i) (ih (i + 1) (by omega) b hp'))
theorem st_yr (c x : Int32) {W : Nat → Int32} (ht : ∀ j, j < 8 → ma j = W j) {post : Int32 → Prop} (hp : post (st_b (st_cr W x))) : wpY_together post (c, p, m, ma, al, le) x :=
  ⟨9, st_ycr c x ht post 8 0 rfl true hp⟩
/-! ===== crowd's own loop ===== -/
def st_mx (W : Nat → Int32) : Nat → Nat → Int32 → Int32
  | 0, _, a => a
  | d + 1, i, a => st_mx W d (i + 1) (if st_sz (nI i) ≤ a then a else if st_cr W (nI i) = true then st_sz (nI i) else a)
theorem st_xmx (c : Int32) {W : Nat → Int32} (ht : ∀ j, j < 8 → t j = W j) (post : Int32 → SX → Prop) : ∀ d i : Nat, i + d = 256 → ∀ a : Int32, post (st_mx W d i a) (c, p, m, t, f) → wX_crowd_8 post c p m t f (d + 1) a (nI i) := by
  intro d
  induction d with
  | zero =>
    intro i hi a hp
    obtain rfl : i = 256 := by omega
    exact br_t (by decide) hp
  | succ d ih =>
    intro i hi a hp
    have hp' : post (st_mx W d (i + 1) (if st_sz (nI i) ≤ a then a else if st_cr W (nI i) = true then st_sz (nI i) else a)) (c, p, m, t, f) := hp
    refine br_f (nI_ge (b := 256) (by omega) (by decide)) (st_xz c (nI i) (br_c (fun h => ?_) (fun h => ?_)))
    · rw [if_pos h] at hp'
      exact nm_r (nI_1 i) (ih (i + 1) (by omega) a hp')
    · rw [if_neg h] at hp'
      refine st_xr c (nI i) ht ?_
      by_cases h2 : st_cr W (nI i) = true
      · rw [if_pos h2] at hp'
        exact br_f (by rw [h2]; decide) (nm_r (nI_1 i) (ih (i + 1) (by omega) _ hp'))
      · rw [if_neg h2] at hp'
        exact br_t (by rw [eq_false_of_ne_true h2]; rfl) (nm_r (nI_1 i) (ih (i + 1) (by omega) _ hp'))
theorem st_ymx (c : Int32) {W : Nat → Int32} (ht : ∀ j, j < 8 → ma j = W j) (post : Int32 → SY → Prop) : ∀ d i : Nat, i + d = 256 → ∀ a : Int32, post (st_mx W d i a) (c, p, m, ma, al, le) → wY_crowd_8 post c p m ma al le (d + 1) a (nI i) := by
  intro d
  induction d with
  | zero =>
    intro i hi a hp
    obtain rfl : i = 256 := by omega
    exact br_t (by decide) hp
  | succ d ih =>
    intro i hi a hp
    have hp' : post (st_mx W d (i + 1) (if st_sz (nI i) ≤ a then a else if st_cr W (nI i) = true then st_sz (nI i) else a)) (c, p, m, ma, al, le) := hp
    refine br_f (nI_ge (b := 256) (by omega) (by decide)) (st_yz c (nI i) (br_c (fun h => ?_) (fun h => ?_)))
    · rw [if_pos h] at hp'
      exact nm_r (nI_1 i) (ih (i + 1) (by omega) a hp')
    · rw [if_neg h] at hp'
      refine st_yr c (nI i) ht ?_
      by_cases h2 : st_cr W (nI i) = true
      · rw [if_pos h2] at hp'
        exact br_f (by rw [h2]; decide) (nm_r (nI_1 i) (ih (i + 1) (by omega) _ hp'))
      · rw [if_neg h2] at hp'
        exact br_t (by rw [eq_false_of_ne_true h2]; rfl) (nm_r (nI_1 i) (ih (i + 1) (by omega) _ hp'))
/-! ===== no two together ===== -/
def st_oP (W : Nat → Int32) (x : Int32) (s : Nat) : Bool := decide (st_g x s = 0) || decide (((x &&& W s) &&& (st_bit s ^^^ (-1))) = 0)
def st_oc (W : Nat → Int32) (x : Int32) : Bool := st_al (st_oP W x) 8 0
theorem st_oP_t {W : Nat → Int32} {x : Int32} {s : Nat} (h : st_g x s = 0) : st_oP W x s = true := by
  unfold st_oP; rw [decide_eq_true h]; rfl
theorem st_oP_f {W : Nat → Int32} {x : Int32} {s : Nat} (h : ¬ st_g x s = 0) : st_oP W x s = decide (((x &&& W s) &&& (st_bit s ^^^ (-1))) = 0) := by
  unfold st_oP; rw [decide_eq_false h]; rfl
theorem st_ac (x y z : Int32) : (x &&& y) &&& z = (x &&& z) &&& y := by
  apply b_ext
  intro i _
  rw [b_and, b_and, b_and, b_and, Bool.and_assoc, Bool.and_comm (bt y i), Bool.and_assoc]
theorem st_xoc (c x : Int32) {W : Nat → Int32} (ht : ∀ j, j < 8 → t j = W j) (post : Int32 → Prop) : ∀ d i : Nat, i + d = 8 → post (st_b (st_al (st_oP W x) d i)) → wX_isOneColour_2 post x c p m t f (d + 1) (nI i) := by
  intro d
  induction d with
  | zero =>
    intro i hi hp
    obtain rfl : i = 8 := by omega
    exact br_t (by decide) hp
  | succ d ih =>
    intro i hi hp
    have hp' : post (st_b (st_oP W x i && st_al (st_oP W x) d (i + 1))) := hp
    have e : t (nI i).toNatClampNeg = W i := by rw [nI_clamp (by omega)]; exact ht i (by omega)
    refine br_f (nI_ge (b := 8) (by omega) (by decide)) (nm_e ?_)
    by_cases h : st_g x i = 0
    · rw [st_oP_t h, Bool.true_and] at hp'
      exact br_t h (nm_r (nI_1 i) (ih (i + 1) (by omega) hp'))
    · rw [st_oP_f h] at hp'
      refine br_f h ⟨vp_in_nI (by omega) (by decide), ?_⟩
      have e2 : (x &&& (((1 : Int32) <<< (nI i &&& 31)) ^^^ (-1))) &&& t (nI i).toNatClampNeg = (x &&& W i) &&& (st_bit i ^^^ (-1)) := by
        rw [e, st_ac]; rfl
      by_cases h2 : ((x &&& W i) &&& (st_bit i ^^^ (-1))) = 0
      · rw [decide_eq_true h2, Bool.true_and] at hp'
        exact br_t (e2.trans h2) (nm_r (nI_1 i) (ih (i + 1) (by omega) hp'))
      · rw [decide_eq_false h2, Bool.false_and] at hp'
        exact br_f (fun z => h2 (e2.symm.trans z)) hp'
theorem st_xoo (c x : Int32) {W : Nat → Int32} (ht : ∀ j, j < 8 → t j = W j) {post : Int32 → Prop} (hp : post (st_b (st_oc W x))) : wpX_isOneColour post (c, p, m, t, f) x :=
  ⟨9, st_xoc c x ht post 8 0 rfl hp⟩
theorem st_yoc (c x : Int32) {W : Nat → Int32} (ht : ∀ j, j < 8 → ma j = W j) (post : Int32 → Prop) : ∀ d i : Nat, i + d = 8 → ∀ b : Bool, post (st_b (b && st_al (st_oP W x) d i)) → wY_strangers_4 post x c p m ma al le (d + 1) (st_b b) (nI i) := by
  intro d
  induction d with
  | zero =>
    intro i hi b hp
    obtain rfl : i = 8 := by omega
    refine br_t (by decide) ⟨st_nb b, ?_⟩
    have hp' : post (st_b (b && true)) := hp
    rw [Bool.and_true] at hp'
    exact hp'
  | succ d ih =>
    intro i hi b hp
    have hp' : post (st_b (b && (st_oP W x i && st_al (st_oP W x) d (i + 1)))) := hp
    have e : ma (nI i).toNatClampNeg = W i := by rw [nI_clamp (by omega)]; exact ht i (by omega)
    refine br_f (nI_ge (b := 8) (by omega) (by decide)) ?_
    by_cases h : st_g x i = 1
    · rw [st_oP_f ((st_g1 _ _).mp h)] at hp'
      refine br_t h ?_
      cases b with
      | false => exact br_t rfl (nm_r (nI_1 i) (ih (i + 1) (by omega) false hp'))
      | true =>
        rw [Bool.true_and] at hp'
        refine br_f (by decide) ⟨vp_in_nI (by omega) (by decide), ?_⟩
        by_cases h2 : ((x &&& W i) &&& (st_bit i ^^^ (-1))) = 0
        · rw [decide_eq_true h2] at hp'
          exact br_t (by rw [e]; exact h2) (nm_r (nI_1 i) (ih (i + 1) (by omega) true hp'))
        · rw [decide_eq_false h2] at hp'
          exact br_f (by rw [e]; exact h2) (nm_r (nI_1 i) (ih (i + 1) (by omega) false hp'))
    · have h' : st_g x i = 0 := Classical.byContradiction (fun z => h ((st_g1 _ _).mpr z))
      rw [st_oP_t h', Bool.true_and] at hp'
      exact br_f h (nm_r (nI_1 i) (ih (i + 1) (by omega) b hp'))
theorem st_yoo (c x : Int32) {W : Nat → Int32} (ht : ∀ j, j < 8 → ma j = W j) {post : Int32 → Prop} (hp : post (st_b (st_oc W x))) : wpY_strangers post (c, p, m, ma, al, le) x :=
  ⟨9, st_yoc c x ht post 8 0 rfl true hp⟩
end
end
section
/-! ===== the fewest colours of a set: one round over its parts ===== -/
/-- where the rest of set S stands, without its part i -/
def st_df (S i : Nat) : Nat := (nI S &&& (nI i ^^^ (-1))).toNatClampNeg
def st_fw (W f : Nat → Int32) (S : Nat) : Nat → Nat → Int32 → Int32
  | 0, _, b => b
  | d + 1, i, b => st_fw W f S d (i + 1) (if (nI i &&& (nI S ^^^ (-1))) = 0 ∧ st_oc W (nI i) = true ∧ ¬ b ≤ f (st_df S i) + 1 then f (st_df S i) + 1 else b)
theorem st_an (S : Nat) (y : Int32) (hS : S < 256) : ∃ k, k ≤ S ∧ nI S &&& y = nI k := by
  refine ⟨(nI S &&& y).toBitVec.toNat, ?_, ?_⟩
  · rw [Int32.toBitVec_and, BitVec.toNat_and, pk_tn (by omega)]
    exact Nat.and_le_left
  · apply Int32.toBitVec_inj.mp
    apply BitVec.eq_of_toNat_eq
    rw [pk_tn (BitVec.isLt _)]
theorem st_df_e (S i : Nat) (hS : S < 256) : nI S &&& (nI i ^^^ (-1)) = nI (st_df S i) ∧ st_df S i ≤ S := by
  obtain ⟨k, hk, e⟩ := st_an S (nI i ^^^ (-1)) hS
  have e2 : st_df S i = k := by
    unfold st_df
    rw [e]
    exact nI_clamp (by omega)
  rw [e2]
  exact ⟨e, hk⟩
theorem st_df_in (S i : Nat) (hS : S < 256) : vp_in (nI S &&& (nI i ^^^ (-1))) 256 :=
  pk_in (st_df S i) 256 (by have := (st_df_e S i hS).2; omega) (st_df_e S i hS).1
theorem st_sb {x y : Int32} (h : (x &&& (y ^^^ (-1))) = 0) {k : Nat} (hk : k < 32) (hx : bt x k = true) : bt y k = true := by
  have e : bt (x &&& (y ^^^ (-1))) k = false := by rw [h]; exact b_0 k
  rw [b_and, b_xor, b_m1 k hk, hx, Bool.true_and, Bool.xor_true] at e
  cases hy : bt y k with
  | true => rfl
  | false => rw [hy] at e; exact absurd e (by decide)
theorem st_bs {x y : Int32} (h : ∀ k, k < 32 → bt x k = true → bt y k = true) : (x &&& (y ^^^ (-1))) = 0 := by
  apply b_ext
  intro k hk
  rw [b_and, b_xor, b_m1 k hk, b_0]
  cases hx : bt x k with
  | false => rfl
  | true => rw [h k hk hx]; rfl
theorem st_df_lt {S i : Nat} (hS : S < 256) (h1 : 1 ≤ i) (hi : i < 256) (h : (nI i &&& (nI S ^^^ (-1))) = 0) : st_df S i < S := by
  have ⟨e, hl⟩ := st_df_e S i hS
  rcases Nat.lt_or_ge (st_df S i) S with h2 | h2
  · exact h2
  · exfalso
    have e2 : st_df S i = S := by omega
    rw [e2] at e
    have z : nI i = 0 := by
      apply b_ext
      intro k hk
      rw [b_0]
      cases hx : bt (nI i) k with
      | false => rfl
      | true =>
        have hy := st_sb h hk hx
        have e3 : bt (nI S &&& (nI i ^^^ (-1))) k = true := by rw [e]; exact hy
        rw [b_and, b_xor, b_m1 k hk, hx, hy] at e3
        exact absurd e3 (by decide)
    exact nI_ne0 (by omega) (by omega) z
theorem st_df_sb {S i U : Nat} (hS : S < 256) (h : (nI S &&& (nI U ^^^ (-1))) = 0) : (nI (st_df S i) &&& (nI U ^^^ (-1))) = 0 := by
  rw [← (st_df_e S i hS).1]
  apply st_bs
  intro k hk hx
  rw [b_and, Bool.and_eq_true] at hx
  exact st_sb h hk hx.1
theorem st_fw_cg {W f f' : Nat → Int32} {S : Nat} (H : ∀ i, 1 ≤ i → i < 256 → (nI i &&& (nI S ^^^ (-1))) = 0 → f (st_df S i) = f' (st_df S i)) : ∀ (d i : Nat) (b : Int32), 1 ≤ i → i + d ≤ 256 → st_fw W f S d i b = st_fw W f' S d i b := by
  intro d
  induction d with
  | zero => intro i b _ _; rfl
  | succ d ih =>
    intro i b h1 h2
    have e : (if (nI i &&& (nI S ^^^ (-1))) = 0 ∧ st_oc W (nI i) = true ∧ ¬ b ≤ f (st_df S i) + 1 then f (st_df S i) + 1 else b) = (if (nI i &&& (nI S ^^^ (-1))) = 0 ∧ st_oc W (nI i) = true ∧ ¬ b ≤ f' (st_df S i) + 1 then f' (st_df S i) + 1 else b) := by
      by_cases h : (nI i &&& (nI S ^^^ (-1))) = 0
      · rw [H i h1 (by omega) h]
      · rw [if_neg (fun z => h z.1), if_neg (fun z => h z.1)]
    show st_fw W f S d (i + 1) _ = st_fw W f' S d (i + 1) _
    rw [e]
    exact ih (i + 1) _ (by omega) (by omega)
theorem st_fw_lo {W f f' : Nat → Int32} {S : Nat} (hS : S < 256) (h : ∀ j, j < S → f j = f' j) (b : Int32) : st_fw W f S S 1 b = st_fw W f' S S 1 b :=
  st_fw_cg (fun i h1 h2 h3 => h _ (st_df_lt hS h1 h2 h3)) S 1 b (by omega) (by omega)
/-- what both tables come to -/
theorem st_tab {W f l : Nat → Int32} {U : Nat} (f0 : f 0 = 0) (l0 : l 0 = 0) (hf : ∀ S, 1 ≤ S → S < 256 → f S = st_fw W f S S 1 8) (hl : ∀ S, 1 ≤ S → S < 256 → (nI S &&& (nI U ^^^ (-1))) = 0 → l S = st_fw W l S S 1 8) : ∀ B S, S < B → S < 256 → (nI S &&& (nI U ^^^ (-1))) = 0 → l S = f S := by
  intro B
  induction B with
  | zero => intro S h; omega
  | succ B ih =>
    intro S h1 h2 h3
    rcases Nat.eq_zero_or_pos S with rfl | hp
    · rw [f0, l0]
    · rw [hf S hp h2, hl S hp h2 h3]
      refine st_fw_cg (fun i i1 i2 i3 => ?_) S 1 8 (by omega) (by omega)
      have hlt := st_df_lt h2 i1 i2 i3
      exact ih _ (by omega) (by omega) (st_df_sb h2 h3)
theorem st_df_self (U : Nat) : (nI U &&& (nI U ^^^ (-1))) = 0 := st_bs (fun _ _ h => h)
section
variable {n : Nat} {p m t f ma al le : Nat → Int32}
/-! ===== the component's table ===== -/
theorem st_xfw (c : Int32) {W : Nat → Int32} (ht : ∀ j, j < 8 → t j = W j) {S : Nat} (hS : S < 256) (post : Int32 → Prop) : ∀ d i : Nat, i + d = S + 1 → 1 ≤ i → ∀ b : Int32, post (st_fw W f S d i b) → wX_fewestFor_5 post (nI S) c p m t f (d + 1) b (nI i) := by
  intro d
  induction d with
  | zero =>
    intro i hi h1 b hp
    exact br_t (nI_lt (by omega) (by omega)) hp
  | succ d ih =>
    intro i hi h1 b hp
    have hp' : post (st_fw W f S d (i + 1) (if (nI i &&& (nI S ^^^ (-1))) = 0 ∧ st_oc W (nI i) = true ∧ ¬ b ≤ f (st_df S i) + 1 then f (st_df S i) + 1 else b)) := hp
    refine br_f (nI_nlt (by omega) (by omega)) ?_
    by_cases h : (nI i &&& (nI S ^^^ (-1))) = 0
    · refine br_t h ?_
      refine br_f (by decide) ⟨st_df_in S i hS, ?_⟩
      by_cases h2 : b ≤ f (st_df S i) + 1
      · rw [if_neg (fun z => z.2.2 h2)] at hp'
        exact br_t h2 (nm_r (nI_1 i) (ih (i + 1) (by omega) (by omega) _ hp'))
      · refine br_f h2 (st_xoo c (nI i) ht ?_)
        by_cases h3 : st_oc W (nI i) = true
        · rw [if_pos ⟨h, h3, h2⟩] at hp'
          exact br_f (by rw [h3]; decide) ⟨st_df_in S i hS, nm_e (nm_r (nI_1 i) (ih (i + 1) (by omega) (by omega) _ hp'))⟩
        · rw [if_neg (fun z => h3 z.2.1)] at hp'
          exact br_t (by rw [eq_false_of_ne_true h3]; rfl) (nm_r (nI_1 i) (ih (i + 1) (by omega) (by omega) _ hp'))
    · rw [if_neg (fun z => h z.1)] at hp'
      refine br_f h ?_
      exact br_t rfl (nm_r (nI_1 i) (ih (i + 1) (by omega) (by omega) _ hp'))
theorem st_xff (c : Int32) {W : Nat → Int32} (ht : ∀ j, j < 8 → t j = W j) {post : SX → Prop} (hp : ∀ f' : Nat → Int32, f' 0 = 0 → (∀ S, 1 ≤ S → S < 256 → f' S = st_fw W f' S S 1 8) → post (c, p, m, t, f')) : ∀ d i : Nat, i + d = 256 → 1 ≤ i → ∀ f : Nat → Int32, f 0 = 0 → (∀ S, 1 ≤ S → S < i → f S = st_fw W f S S 1 8) → wX_fillFewest_9 post c (d + 1) (nI i) p m t f := by
  intro d
  induction d with
  | zero =>
    intro i hi h1 f f0 hf
    obtain rfl : i = 256 := by omega
    exact br_t (by decide) (hp f f0 hf)
  | succ d ih =>
    intro i hi h1 f f0 hf
    have e : (nI i).toNatClampNeg = i := nI_clamp (by omega)
    refine br_f (nI_ge (b := 256) (by omega) (by decide)) ?_
    refine ⟨i + 1, st_xfw c ht (by omega) _ i 1 (by omega) (by omega) 8 ⟨vp_in_nI (by omega) (by decide), nm_r (congrArg (fun k => upd f k (st_fw W f i i 1 8)) e) (nm_r (nI_1 i) (ih (i + 1) (by omega) (by omega) _ ?_ ?_))⟩⟩
    · exact (pk_un (by omega)).trans f0
    · intro S s1 s2
      have hlo : ∀ j, j < S → f j = upd f i (st_fw W f i i 1 8) j := fun j hj => (pk_un (by omega)).symm
      rw [← st_fw_lo (by omega) hlo]
      by_cases h : S = i
      · subst h; exact pk_us
      · rw [pk_un h]; exact hf S s1 (by omega)
theorem st_xl (c : Int32) {W : Nat → Int32} (ht : ∀ j, j < 8 → t j = W j) {post : SX → Prop} (hp : ∀ f' : Nat → Int32, f' 0 = 0 → (∀ S, 1 ≤ S → S < 256 → f' S = st_fw W f' S S 1 8) → post (c, p, m, t, f')) : wpX_fillFewest post (c, p, m, t, f) := by
  refine nm_e ⟨256, ?_⟩
  exact st_xff c ht hp 255 1 rfl (by omega) _ pk_us (fun S s1 s2 => by omega)
/-! ===== the reference's table ===== -/
theorem st_yfw (post : Int32 → SY → Prop) {J : Int32 → (Nat → Int32) → (Nat → Int32) → (Nat → Int32) → (Nat → Int32) → (Nat → Int32) → Prop} (c : Int32) {W l0 : Nat → Int32} {S U : Nat} (hS : S < 256) (hsub : (nI S &&& (nI U ^^^ (-1))) = 0) (ha : ∀ j, j < 256 → al j = st_b (st_oc W (nI j))) : ∀ d i : Nat, i + d = S + 1 → 1 ≤ i → ∀ (b : Int32) (l : Nat → Int32), l S = b → (∀ j, j ≠ S → l j = l0 j) → (∀ l' : Nat → Int32, l' S = st_fw W l0 S d i b → (∀ j, j ≠ S → l' j = l0 j) → J (nI (S + 1)) p m ma al l') → wY_colours_82 post J (nI U) (nI S) c (d + 1) (nI i) p m ma al l := by
  intro d
  induction d with
  | zero =>
    intro i hi h1 b l hb hl hJ
    exact br_t (nI_lt (by omega) (by omega)) (nm_r (nI_1 S) (hJ l hb hl))
  | succ d ih =>
    intro i hi h1 b l hb hl hJ
    have hJ' : ∀ l' : Nat → Int32, l' S = st_fw W l0 S d (i + 1) (if (nI i &&& (nI S ^^^ (-1))) = 0 ∧ st_oc W (nI i) = true ∧ ¬ b ≤ l0 (st_df S i) + 1 then l0 (st_df S i) + 1 else b) → (∀ j, j ≠ S → l' j = l0 j) → J (nI (S + 1)) p m ma al l' := hJ
    have eS : (nI S).toNatClampNeg = S := nI_clamp (by omega)
    have ei : (nI i).toNatClampNeg = i := nI_clamp (by omega)
    have eb : l (nI S).toNatClampNeg = b := by rw [eS]; exact hb
    have ea : al (nI i).toNatClampNeg = st_b (st_oc W (nI i)) := by rw [ei]; exact ha i (by omega)
    have iS : vp_in (nI S) 256 := vp_in_nI hS (by decide)
    refine br_f (nI_nlt (by omega) (by omega)) (br_t hsub ?_)
    by_cases h : (nI i &&& (nI S ^^^ (-1))) = 0
    · refine br_t h ⟨vp_in_nI (by omega) (by decide), ?_⟩
      by_cases h3 : st_oc W (nI i) = true
      · have hlt := st_df_lt hS h1 (by omega) h
        have er : l (nI S &&& (nI i ^^^ (-1))).toNatClampNeg + 1 = l0 (st_df S i) + 1 := by
          show l (st_df S i) + 1 = _
          rw [hl _ (by omega)]
        refine br_f (by rw [ea, h3]; decide) ⟨st_df_in S i hS, nm_r er ⟨iS, ?_⟩⟩
        by_cases h2 : b ≤ l0 (st_df S i) + 1
        · rw [if_neg (fun z => z.2.2 h2)] at hJ'
          refine br_t (by rw [eb]; exact h2) ⟨iS, iS, nm_e (nm_r (nI_1 i) (ih (i + 1) (by omega) (by omega) b _ ?_ ?_ hJ'))⟩
          · rw [eS, pk_us]; exact hb
          · intro j hj
            rw [eS, pk_un hj]; exact hl j hj
        · rw [if_pos ⟨h, h3, h2⟩] at hJ'
          refine br_f (by rw [eb]; exact h2) ⟨iS, nm_e (nm_r (nI_1 i) (ih (i + 1) (by omega) (by omega) _ _ ?_ ?_ hJ'))⟩
          · rw [eS, pk_us]
          · intro j hj
            rw [eS, pk_un hj]; exact hl j hj
      · rw [if_neg (fun z => h3 z.2.1)] at hJ'
        exact br_t (by rw [ea, eq_false_of_ne_true h3]; rfl) (nm_r (nI_1 i) (ih (i + 1) (by omega) (by omega) b l hb hl hJ'))
    · rw [if_neg (fun z => h z.1)] at hJ'
      exact br_f h (nm_r (nI_1 i) (ih (i + 1) (by omega) (by omega) b l hb hl hJ'))
theorem st_yff (c : Int32) {W : Nat → Int32} {U : Nat} (hU : U < 256) (ha : ∀ j, j < 256 → al j = st_b (st_oc W (nI j))) {post : Int32 → SY → Prop} (hp : ∀ l' : Nat → Int32, l' 0 = 0 → (∀ S, 1 ≤ S → S < 256 → (nI S &&& (nI U ^^^ (-1))) = 0 → l' S = st_fw W l' S S 1 8) → post (l' U) (c, p, m, ma, al, l')) : ∀ d i : Nat, i + d = 256 → 1 ≤ i → ∀ l : Nat → Int32, l 0 = 0 → (∀ S, 1 ≤ S → S < i → (nI S &&& (nI U ^^^ (-1))) = 0 → l S = st_fw W l S S 1 8) → (∀ S, i ≤ S → S < 256 → l S = 8) → wY_colours_73 post (nI U) c (d + 1) (nI i) p m ma al l := by
  intro d
  induction d with
  | zero =>
    intro i hi h1 l l0 hl h8
    obtain rfl : i = 256 := by omega
    refine br_t (by decide) ⟨vp_in_nI hU (by decide), ?_⟩
    rw [nI_clamp (by omega)]
    exact hp l l0 hl
  | succ d ih =>
    intro i hi h1 l l0 hl h8
    refine br_f (nI_ge (b := 256) (by omega) (by decide)) ?_
    by_cases h : (nI i &&& (nI U ^^^ (-1))) = 0
    · refine ⟨i + 1, st_yfw post c (by omega) h ha i 1 (by omega) (by omega) 8 l (h8 i (by omega) (by omega)) (fun j _ => rfl) ?_⟩
      intro l' e1 e2
      refine ih (i + 1) (by omega) (by omega) l' ((e2 0 (by omega)).trans l0) ?_ ?_
      · intro S s1 s2 s3
        have hlo : ∀ j, j < S → l j = l' j := fun j hj => (e2 j (by omega)).symm
        rw [← st_fw_lo (by omega) hlo]
        by_cases hS : S = i
        · subst hS; exact e1
        · rw [e2 S hS]; exact hl S s1 (by omega) s3
      · intro S s1 s2
        rw [e2 S (by omega)]; exact h8 S (by omega) s2
    · refine ⟨1, br_f (nI_nlt (by omega) (by omega)) (br_f h (nm_r (nI_1 i) (ih (i + 1) (by omega) (by omega) l l0 ?_ ?_)))⟩
      · intro S s1 s2 s3
        by_cases hS : S = i
        · subst hS; exact absurd s3 h
        · exact hl S s1 (by omega) s3
      · exact fun S s1 s2 => h8 S (by omega) s2
theorem st_vb (b : Bool) : vp_nar .boolean (st_b b) = st_b b := by
  cases b <;> rfl
theorem st_yal (c : Int32) {W : Nat → Int32} {U : Nat} (hU : U < 256) (ht : ∀ j, j < 8 → ma j = W j) {post : Int32 → SY → Prop} (hp : ∀ al' l' : Nat → Int32, l' 0 = 0 → (∀ S, 1 ≤ S → S < 256 → (nI S &&& (nI U ^^^ (-1))) = 0 → l' S = st_fw W l' S S 1 8) → post (l' U) (c, p, m, ma, al', l')) : ∀ d i : Nat, i + d = 256 → ∀ al l : Nat → Int32, (0 < i → l 0 = 0) → (∀ S, 1 ≤ S → S < i → l S = 8) → (∀ j, j < i → al j = st_b (st_oc W (nI j))) → wY_colours_31 post (nI U) c (d + 1) (nI i) p m ma al l := by
  intro d
  induction d with
  | zero =>
    intro i hi al l l0 h8 ha
    obtain rfl : i = 256 := by omega
    refine br_t (by decide) ⟨256, ?_⟩
    exact st_yff c hU ha (hp al) 255 1 rfl (by omega) l (l0 (by omega)) (fun S s1 s2 => by omega) (fun S s1 s2 => h8 S s1 s2)
  | succ d ih =>
    intro i hi al l l0 h8 ha
    have e : (nI i).toNatClampNeg = i := nI_clamp (by omega)
    have iS : vp_in (nI i) 256 := vp_in_nI (by omega) (by decide)
    have ea : upd al (nI i).toNatClampNeg (vp_nar .boolean (st_b (st_oc W (nI i)))) = upd al i (st_b (st_oc W (nI i))) := by rw [e, st_vb]
    have ha' : ∀ j, j < i + 1 → upd al i (st_b (st_oc W (nI i))) j = st_b (st_oc W (nI j)) := by
      intro j hj
      by_cases h : j = i
      · rw [h]; exact pk_us
      · exact (pk_un h).trans (ha j (by omega))
    refine br_f (nI_ge (b := 256) (by omega) (by decide)) (st_yoo c (nI i) ht ⟨iS, nm_r ea ?_⟩)
    by_cases h : i = 0
    · subst h
      refine br_t rfl ⟨iS, nm_r (congrArg (fun k => upd l k 0) e) (nm_r (nI_1 0) (ih 1 (by omega) _ _ (fun _ => pk_us) (fun S s1 s2 => by omega) ha'))⟩
    · refine br_f (nI_ne0 (by omega) (by omega)) ⟨iS, nm_r (congrArg (fun k => upd l k 8) e) (nm_r (nI_1 i) (ih (i + 1) (by omega) _ _ (fun _ => (pk_un (by omega)).trans (l0 (by omega))) ?_ ha'))⟩
      intro S s1 s2
      by_cases hS : S = i
      · rw [hS]; exact pk_us
      · exact (pk_un hS).trans (h8 S s1 (by omega))
theorem st_yus (c : Int32) {W : Nat → Int32} {U : Nat} (hU : U < 256) (ht : ∀ j, j < 8 → ma j = W j) {post : Int32 → SY → Prop} (hp : ∀ al' l' : Nat → Int32, l' 0 = 0 → (∀ S, 1 ≤ S → S < 256 → (nI S &&& (nI U ^^^ (-1))) = 0 → l' S = st_fw W l' S S 1 8) → post (l' U) (c, p, m, ma, al', l')) : ∀ d i : Nat, i + d = 8 → ∀ a : Int32, st_or W d i a = nI U → wY_colours_8 post c p m ma al le (d + 1) a (nI i) := by
  intro d
  induction d with
  | zero =>
    intro i hi a he
    obtain rfl : i = 8 := by omega
    have he' : a = nI U := he
    subst he'
    refine br_t (by decide) ⟨257, ?_⟩
    exact st_yal c hU ht hp 256 0 rfl al le (fun h => absurd h (Nat.lt_irrefl 0)) (fun S s1 s2 => by omega) (fun j hj => absurd hj (Nat.not_lt_zero j))
  | succ d ih =>
    intro i hi a he
    have e : ma (nI i).toNatClampNeg = W i := by rw [nI_clamp (by omega)]; exact ht i (by omega)
    exact br_f (nI_ge (b := 8) (by omega) (by decide)) ⟨vp_in_nI (by omega) (by decide), nm_r (congrArg (fun k => a ||| k) e) (nm_r (nI_1 i) (ih (i + 1) (by omega) _ he))⟩
end
end
section
/-! ===== the relation ===== -/
/-- both sides keep the same count, parents and methods -/
def i_Rel (_k : Nat) (u : SX) (v : SY) : Prop := ∃ (n : Nat) (p m t f ma al le : Nat → Int32), u = (nI n, p, m, t, f) ∧ v = (nI n, p, m, ma, al, le) ∧ st_Ok n p m
theorem i_up {k : Nat} {u : SX} {v : SY} (h : i_Rel k u v) : i_Rel (k + 4) u v := h
theorem i_vc0 : wpX_init (fun u => wpY_init (fun v => i_Rel 0 u v)) :=
  ⟨0, fun _ => 0, fun _ => 0, fun _ => 0, fun _ => 0, fun _ => 0, fun _ => 0, fun _ => 0, rfl, rfl, by omega, fun j hj => absurd hj (Nat.not_lt_zero j), fun _ => (by decide : ¬ (0 : Int32) < 0)⟩
section
variable {n : Nat} {p m t f ma al le : Nat → Int32}
theorem st_R {k : Nat} (ok : st_Ok n p m) : i_Rel k (nI n, p, m, t, f) (nI n, p, m, ma, al, le) := ⟨n, p, m, t, f, ma, al, le, rfl, rfl, ok⟩
/-! ===== addClass ===== -/
theorem st_xn_i {x : Int32} {post : Int32 → Prop} (hn : n ≤ 10) (hx : st_PV n x) (h : post 1) : wpX_isClassOrNone post (nI n, p, m, t, f) x := by
  rcases hx with rfl | ⟨j, hj, rfl⟩
  · exact br_t rfl h
  · exact br_f (st_nn (by omega)) (st_xc_i hj hn (br_f (by decide) h))
theorem st_xn_o {x : Int32} {post : Int32 → Prop} (hx : x < 0 ∨ nI n ≤ x) (hx1 : ¬ x = -1) (h : post 0) : wpX_isClassOrNone post (nI n, p, m, t, f) x :=
  br_f hx1 (st_xc_o hx (br_t rfl h))
theorem st_sp (n : Nat) (hn : n ≤ 10) (x : Int32) : st_PV n x ∨ ((x < 0 ∨ nI n ≤ x) ∧ ¬ x = -1) := by
  by_cases h1 : x = -1
  · exact Or.inl (Or.inl h1)
  · rcases pk_ix x (n := n) (by omega) with h | h | h
    · exact Or.inr ⟨Or.inl h, h1⟩
    · exact Or.inr ⟨Or.inr h, h1⟩
    · exact Or.inl (Or.inr h)
theorem st_cl (n : Nat) (hn : n ≤ 10) (x : Int32) : (x < 0 ∨ nI n ≤ x) ∨ ∃ j, j < n ∧ x = nI j := by
  rcases pk_ix x (n := n) (by omega) with h | h | h
  · exact Or.inl (Or.inl h)
  · exact Or.inl (Or.inr h)
  · exact Or.inr h
theorem st_pvm {x : Int32} (h : st_PV n x) : st_PV (n + 1) x := by
  rcases h with h | ⟨j, hj, h⟩
  · exact Or.inl h
  · exact Or.inr ⟨j, by omega, h⟩
theorem st_okA (ok : st_Ok n p m) (hn : n < 10) {x : Int32} (hx : st_PV n x) : st_Ok (n + 1) (upd p n x) m := by
  refine ⟨by omega, fun j hj => ?_, ok.2.2⟩
  by_cases h : j = n
  · rw [h, pk_us]; exact st_pvm hx
  · rw [pk_un h]; exact st_pvm (ok.2.1 j (by omega))
theorem st_yad {x : Int32} {post : Int32 → SY → Prop} (hn : n ≤ 10) (h1 : n < 10 → post (nI n) (nI (n + 1), upd p n x, m, ma, al, le)) (h2 : n = 10 → post (-2) (nI n, p, m, ma, al, le)) : wY_addClass_15 post x (nI n) p m ma al le := by
  have e : (nI n).toNatClampNeg = n := nI_clamp (by omega)
  by_cases h : n < 10
  · refine br_t (nI_lt (b := 10) h (by decide)) ⟨vp_in_nI h (by decide), nm_r (congrArg (fun k => upd p k x) e) (nm_r (nI_1 n) ?_)⟩
    rw [nI_pred]
    exact h1 h
  · exact br_f (nI_nlt (b := 10) (by omega) (by omega)) (h2 (by omega))
theorem st_ya {x : Int32} {post : Int32 → SY → Prop} (hn : n ≤ 10) (hx : st_PV n x) (h1 : n < 10 → post (nI n) (nI (n + 1), upd p n x, m, ma, al, le)) (h2 : n = 10 → post (-2) (nI n, p, m, ma, al, le)) : wpY_addClass post (nI n, p, m, ma, al, le) x := by
  rcases hx with rfl | ⟨j, hj, rfl⟩
  · exact br_t rfl (st_yad hn h1 h2)
  · exact br_f (st_nn (by omega)) (st_yc_i hj hn (br_f (by decide) (st_yad hn h1 h2)))
end
theorem i_vc_addClass {k : Nat} {u : SX} {v : SY} (I : i_Rel k u v) (hk : k + 4 ≤ 2048) (v1 : Int32) : wpX_addClass (fun r u' => wpY_addClass (fun r' v' => r' = r ∧ i_Rel (k + 4) u' v') v v1) u v1 := by
  obtain ⟨n, p, m, t, f, ma, al, le, rfl, rfl, ok⟩ := I
  have hn := ok.1
  have e : (nI n).toNatClampNeg = n := nI_clamp (by omega)
  unfold wpX_addClass
  rcases st_sp n hn v1 with hx | ⟨hx, hx1⟩
  · refine st_xn_i hn hx (br_f (by decide) ?_)
    by_cases h : n < 10
    · exact br_t (nI_lt (b := 10) h (by decide)) ⟨vp_in_nI h (by decide), nm_r (congrArg (fun k => upd p k v1) e) (nm_r (nI_1 n) (st_ya hn hx (fun _ => ⟨rfl, st_R (st_okA ok h hx)⟩) (fun z => by omega)))⟩
    · exact br_f (nI_nlt (b := 10) (by omega) (by omega)) (st_ya hn hx (fun z => absurd z h) (fun _ => ⟨rfl, st_R ok⟩))
  · refine st_xn_o hx hx1 (br_t rfl ?_)
    exact br_f hx1 (st_yc_o hx (br_t rfl ⟨rfl, st_R ok⟩))
/-! ===== define, drop ===== -/
section
variable {n : Nat} {p m t f ma al le : Nat → Int32}
theorem st_n7i {s : Nat} (hs : s < 8) : ¬ 7 < nI s := nI_nlt (a := 7) (by omega) (by decide)
theorem st_n7o {y : Int32} (h : nI 8 ≤ y) : 7 < y := Int32.lt_of_lt_of_le (by decide) h
theorem st_okM (ok : st_Ok n p m) {i : Nat} {x : Int32} (hx : ¬ x < 0) : st_Ok n p (upd m i x) := by
  refine ⟨ok.1, ok.2.1, fun j => ?_⟩
  by_cases h : j = i
  · rw [h, pk_us]; exact hx
  · rw [pk_un h]; exact ok.2.2 j
theorem st_i1 {j s : Nat} (hj : j < 10) (hs : s < 8) : (nI j * 8 + nI s).toNatClampNeg = j * 8 + s := by
  rw [st_ix]; exact nI_clamp (by omega)
theorem st_i2 {j s : Nat} (hj : j < 10) (hs : s < 8) : (8 * nI j + nI s).toNatClampNeg = j * 8 + s := by
  rw [st_ix']; exact nI_clamp (by omega)
theorem st_v1 {j s : Nat} (hj : j < 10) (hs : s < 8) : vp_in (nI j * 8 + nI s) 80 := pk_in (j * 8 + s) 80 (by omega) (st_ix j s)
theorem st_v2 {j s : Nat} (hj : j < 10) (hs : s < 8) : vp_in (8 * nI j + nI s) 80 := pk_in (j * 8 + s) 80 (by omega) (st_ix' j s)
theorem st_p1 {x : Int32} (h : ¬ x < 1) : ¬ x < 0 := fun z => h (Int32.lt_of_lt_of_le z (by decide))
end
theorem i_vc_define {k : Nat} {u : SX} {v : SY} (I : i_Rel k u v) (hk : k + 4 ≤ 2048) (v1 : Int32) (v2 : Int32) (v3 : Int32) : wpX_define (fun r u' => wpY_define (fun r' v' => r' = r ∧ i_Rel (k + 4) u' v') v v1 v2 v3) u v1 v2 v3 := by
  obtain ⟨n, p, m, t, f, ma, al, le, rfl, rfl, ok⟩ := I
  have hn := ok.1
  have J : ∀ {k : Nat}, i_Rel k (nI n, p, m, t, f) (nI n, p, m, ma, al, le) := st_R ok
  unfold wpX_define
  rcases st_cl n hn v1 with hx | ⟨j, hj, rfl⟩
  · refine st_xc_o hx (br_t rfl ?_)
    unfold wpY_define
    exact st_yc_o hx (br_t rfl ⟨rfl, J⟩)
  · refine st_xc_i hj hn (br_f (by decide) ?_)
    rcases pk_ix v2 (n := 8) (by decide) with hy | hy | ⟨s, hs, rfl⟩
    · refine st_xs_o (Or.inl hy) (br_t rfl ?_)
      unfold wpY_define
      exact st_yc_i hj hn (br_f (by decide) (br_t hy ⟨rfl, J⟩))
    · refine st_xs_o (Or.inr hy) (br_t rfl ?_)
      unfold wpY_define
      refine st_yc_i hj hn (br_f (by decide) (br_c (fun _ => ⟨rfl, J⟩) (fun _ => br_t (st_n7o hy) ⟨rfl, J⟩)))
    · have hj10 : j < 10 := by omega
      refine st_xs_i hs (br_f (by decide) ?_)
      by_cases h1 : v3 < 1
      · refine br_t h1 ?_
        unfold wpY_define
        exact st_yc_i hj hn (br_f (by decide) (br_f (nI_pos (by omega)) (br_f (st_n7i hs) (br_t h1 ⟨rfl, J⟩))))
      · refine br_f h1 ?_
        by_cases h2 : v3 ≤ 1000
        · refine br_t h2 ⟨st_v1 hj10 hs, nm_r (congrArg (fun k => upd m k v3) (st_i1 hj10 hs)) ?_⟩
          unfold wpY_define
          exact st_yc_i hj hn (br_f (by decide) (br_f (nI_pos (by omega)) (br_f (st_n7i hs) (br_f h1 (br_t h2 ⟨st_v2 hj10 hs, nm_r (congrArg (fun k => upd m k v3) (st_i2 hj10 hs)) ⟨rfl, st_R (st_okM ok (st_p1 h1))⟩⟩)))))
        · refine br_f h2 ?_
          unfold wpY_define
          exact st_yc_i hj hn (br_f (by decide) (br_f (nI_pos (by omega)) (br_f (st_n7i hs) (br_f h1 (br_f h2 ⟨rfl, J⟩)))))
section
variable {n : Nat} {p m t f ma al le : Nat → Int32}
/-- what a call of 'defines' comes to -/
theorem st_xd (hn : n ≤ 10) (x y : Int32) {post : Int32 → Prop} (h0 : (x < 0 ∨ nI n ≤ x) → post 0) (h1 : ∀ j, j < n → x = nI j → (y < 0 ∨ nI 8 ≤ y) → post 0) (h2 : ∀ j s, j < n → s < 8 → x = nI j → y = nI s → m (j * 8 + s) = 0 → post 0) (h3 : ∀ j s, j < n → s < 8 → x = nI j → y = nI s → ¬ m (j * 8 + s) = 0 → post 1) : wpX_defines post (nI n, p, m, t, f) x y := by
  unfold wpX_defines
  rcases st_cl n hn x with hx | ⟨j, hj, rfl⟩
  · exact st_xc_o hx (br_t rfl (h0 hx))
  · refine st_xc_i hj hn (br_f (by decide) ?_)
    rcases pk_ix y (n := 8) (by decide) with hy | hy | ⟨s, hs, rfl⟩
    · exact st_xs_o (Or.inl hy) (br_t rfl (h1 j hj rfl (Or.inl hy)))
    · exact st_xs_o (Or.inr hy) (br_t rfl (h1 j hj rfl (Or.inr hy)))
    · have hj10 : j < 10 := by omega
      refine st_xs_i hs (br_f (by decide) ⟨st_v1 hj10 hs, ?_⟩)
      by_cases h : m (j * 8 + s) = 0
      · exact br_t (by rw [st_i1 hj10 hs]; exact h) (h2 j s hj hs rfl rfl h)
      · exact br_f (by rw [st_i1 hj10 hs]; exact h) (h3 j s hj hs rfl rfl h)
end
theorem i_vc_drop {k : Nat} {u : SX} {v : SY} (I : i_Rel k u v) (hk : k + 4 ≤ 2048) (v1 : Int32) (v2 : Int32) : wpX_drop (fun r u' => wpY_drop (fun r' v' => r' = r ∧ i_Rel (k + 4) u' v') v v1 v2) u v1 v2 := by
  obtain ⟨n, p, m, t, f, ma, al, le, rfl, rfl, ok⟩ := I
  have hn := ok.1
  have J : ∀ {k : Nat}, i_Rel k (nI n, p, m, t, f) (nI n, p, m, ma, al, le) := st_R ok
  unfold wpX_drop
  refine st_xd hn v1 v2 (fun hx => br_t rfl ?_) (fun j hj ej hy => br_t rfl ?_) (fun j s hj hs ej es h => br_t rfl ?_) (fun j s hj hs ej es h => br_f (by decide) ?_)
  · unfold wpY_drop
    exact st_yc_o hx (br_t rfl ⟨rfl, J⟩)
  · subst ej
    unfold wpY_drop
    refine st_yc_i hj hn (br_f (by decide) (br_c (fun _ => ⟨rfl, J⟩) (fun h0 => br_t (st_n7o (hy.resolve_left h0)) ⟨rfl, J⟩)))
  · subst ej es
    have hj10 : j < 10 := by omega
    unfold wpY_drop
    exact st_yc_i hj hn (br_f (by decide) (br_f (nI_pos (by omega)) (br_f (st_n7i hs) ⟨st_v2 hj10 hs, br_t (by rw [st_i2 hj10 hs]; exact h) ⟨rfl, J⟩⟩)))
  · subst ej es
    have hj10 : j < 10 := by omega
    refine ⟨st_v1 hj10 hs, nm_r (congrArg (fun k => upd m k 0) (st_i1 hj10 hs)) ?_⟩
    unfold wpY_drop
    exact st_yc_i hj hn (br_f (by decide) (br_f (nI_pos (by omega)) (br_f (st_n7i hs) ⟨st_v2 hj10 hs, br_f (by rw [st_i2 hj10 hs]; exact h) ⟨st_v2 hj10 hs, nm_r (congrArg (fun k => upd m k 0) (st_i2 hj10 hs)) ⟨rfl, st_R (st_okM ok (by decide))⟩⟩⟩)))
/-! ===== move ===== -/
/-- whether class c is met on the way up from x, in at most d steps -/
def st_wt (p : Nat → Int32) (c : Nat) : Nat → Int32 → Bool
  | 0, _ => false
  | d + 1, x => if x = -1 then false else if x = nI c then true else st_wt p c d (p x.toNatClampNeg)
section
variable {n : Nat} {p m t f ma al le : Nat → Int32}
theorem st_wt_n (p : Nat → Int32) (c d : Nat) : st_wt p c d (-1) = false := by
  cases d with
  | zero => rfl
  | succ d => exact if_pos rfl
theorem st_wt_t {c j : Nat} (d : Nat) (hj : j < 10) (h : nI j = nI c) : st_wt p c (d + 1) (nI j) = true := by
  show (if nI j = -1 then false else if nI j = nI c then true else st_wt p c d (p (nI j).toNatClampNeg)) = _
  rw [if_neg (st_nn hj), if_pos h]
theorem st_wt_f {c j : Nat} (d : Nat) (hj : j < 10) (h : ¬ nI j = nI c) : st_wt p c (d + 1) (nI j) = st_wt p c d (p j) := by
  have e : (nI j).toNatClampNeg = j := nI_clamp (by omega)
  show (if nI j = -1 then false else if nI j = nI c then true else st_wt p c d (p (nI j).toNatClampNeg)) = _
  rw [if_neg (st_nn hj), if_neg h, e]
theorem st_xwt (ok : st_Ok n p m) (c : Nat) (post : Int32 → Prop) : ∀ d i : Nat, i + d = 10 → ∀ x : Int32, st_PV n x → post (st_b (st_wt p c d x)) → wX_isWithin_5 post (nI c) (nI n) p m t f (d + 1) x (nI i) := by
  intro d
  induction d with
  | zero =>
    intro i hi x hx hp
    obtain rfl : i = 10 := by omega
    exact br_t (by decide) hp
  | succ d ih =>
    intro i hi x hx hp
    refine br_f (nI_ge (b := 10) (by omega) (by decide)) ?_
    rcases hx with rfl | ⟨j, hj, rfl⟩
    · exact br_t rfl hp
    · have hj10 : j < 10 := Nat.lt_of_lt_of_le hj ok.1
      have e3 : (nI j).toNatClampNeg = j := nI_clamp (by omega)
      refine br_f (st_nn hj10) ?_
      by_cases h : nI j = nI c
      · rw [st_wt_t d hj10 h] at hp
        exact br_t h hp
      · rw [st_wt_f d hj10 h] at hp
        exact br_f h ⟨vp_in_nI hj10 (by decide), nm_r (congrArg p e3) (nm_r (nI_1 i) (ih (i + 1) (by omega) _ (ok.2.1 j hj) hp))⟩
theorem st_ywt (ok : st_Ok n p m) {c : Nat} (hc : c < n) (y : Int32) (post : Int32 → SY → Prop) : ∀ d i : Nat, i + d = 10 → ∀ x : Int32, st_PV n x → (st_wt p c d x = true → post 0 (nI n, p, m, ma, al, le)) → (st_wt p c d x = false → post 1 (nI n, upd p c y, m, ma, al, le)) → wY_move_28 post (nI c) y (nI n) p m ma al le (d + 1) x (nI i) := by
  have hc10 : c < 10 := Nat.lt_of_lt_of_le hc ok.1
  have ec : (nI c).toNatClampNeg = c := nI_clamp (by omega)
  intro d
  induction d with
  | zero =>
    intro i hi x hx h1 h0
    obtain rfl : i = 10 := by omega
    exact br_t (by decide) ⟨vp_in_nI hc10 (by decide), nm_r (congrArg (fun k => upd p k y) ec) (h0 rfl)⟩
  | succ d ih =>
    intro i hi x hx h1 h0
    refine br_f (nI_ge (b := 10) (by omega) (by decide)) ?_
    rcases hx with rfl | ⟨j, hj, rfl⟩
    · exact br_t st_m1 ⟨vp_in_nI hc10 (by decide), nm_r (congrArg (fun k => upd p k y) ec) (h0 (st_wt_n p c (d + 1)))⟩
    · have hj10 : j < 10 := Nat.lt_of_lt_of_le hj ok.1
      have e3 : (nI j).toNatClampNeg = j := nI_clamp (by omega)
      refine br_f (nI_pos (by omega)) ?_
      by_cases h : nI j = nI c
      · exact br_t h (h1 (st_wt_t d hj10 h))
      · rw [st_wt_f d hj10 h] at h1 h0
        exact br_f h ⟨vp_in_nI hj10 (by decide), nm_r (congrArg p e3) (nm_r (nI_1 i) (ih (i + 1) (by omega) _ (ok.2.1 j hj) h1 h0))⟩
theorem st_okP (ok : st_Ok n p m) {c : Nat} {x : Int32} (hx : st_PV n x) : st_Ok n (upd p c x) m := by
  refine ⟨ok.1, fun j hj => ?_, ok.2.2⟩
  by_cases h : j = c
  · rw [h, pk_us]; exact hx
  · rw [pk_un h]; exact ok.2.1 j hj
theorem st_ymv (ok : st_Ok n p m) {c : Nat} (hc : c < n) {y : Int32} (hy : st_PV n y) {post : Int32 → SY → Prop} (h1 : st_wt p c 10 y = true → post 0 (nI n, p, m, ma, al, le)) (h0 : st_wt p c 10 y = false → post 1 (nI n, upd p c y, m, ma, al, le)) : wpY_move post (nI n, p, m, ma, al, le) (nI c) y := by
  have hw : wY_move_28 post (nI c) y (nI n) p m ma al le 11 y 0 := st_ywt ok hc y post 10 0 rfl y hy h1 h0
  unfold wpY_move
  refine st_yc_i hc ok.1 (br_f (by decide) ?_)
  rcases hy with rfl | ⟨j, hj, rfl⟩
  · exact br_t rfl ⟨11, hw⟩
  · exact br_f (st_nn (Nat.lt_of_lt_of_le hj ok.1)) (st_yc_i hj ok.1 (br_f (by decide) ⟨11, hw⟩))
end
theorem i_vc_move {k : Nat} {u : SX} {v : SY} (I : i_Rel k u v) (hk : k + 4 ≤ 2048) (v1 : Int32) (v2 : Int32) : wpX_move (fun r u' => wpY_move (fun r' v' => r' = r ∧ i_Rel (k + 4) u' v') v v1 v2) u v1 v2 := by
  obtain ⟨n, p, m, t, f, ma, al, le, rfl, rfl, ok⟩ := I
  have hn := ok.1
  have J : ∀ {k : Nat}, i_Rel k (nI n, p, m, t, f) (nI n, p, m, ma, al, le) := st_R ok
  unfold wpX_move
  rcases st_cl n hn v1 with hx | ⟨c, hc, rfl⟩
  · refine st_xc_o hx (br_t rfl ?_)
    unfold wpY_move
    exact st_yc_o hx (br_t rfl ⟨rfl, J⟩)
  · have hc10 : c < 10 := by omega
    have ec : (nI c).toNatClampNeg = c := nI_clamp (by omega)
    refine st_xc_i hc hn (br_f (by decide) ?_)
    rcases st_sp n hn v2 with hy | ⟨hy, hy1⟩
    · refine st_xn_i hn hy (br_f (by decide) ⟨11, st_xwt ok c _ 10 0 rfl v2 hy ?_⟩)
      cases hw : st_wt p c 10 v2 with
      | true =>
        exact br_f (by decide) (st_ymv ok hc hy (fun _ => ⟨rfl, J⟩) (fun z => by rw [hw] at z; exact absurd z (by decide)))
      | false =>
        exact br_t rfl ⟨vp_in_nI hc10 (by decide), nm_r (congrArg (fun k => upd p k v2) ec) (st_ymv ok hc hy (fun z => by rw [hw] at z; exact absurd z (by decide)) (fun _ => ⟨rfl, st_R (st_okP ok hy)⟩))⟩
    · refine st_xn_o hy hy1 (br_t rfl ?_)
      unfold wpY_move
      exact st_yc_i hc hn (br_f (by decide) (br_f hy1 (st_yc_o hy (br_t rfl ⟨rfl, J⟩))))
end
section
/-! ===== classes, parent ===== -/
theorem i_vc_classes {k : Nat} {u : SX} {v : SY} (I : i_Rel k u v) (hk : k + 4 ≤ 2048) : wpX_classes (fun r => wpY_classes (fun r' => r' = r ∧ i_Rel (k + 4) u v) v) u := by
  obtain ⟨n, p, m, t, f, ma, al, le, rfl, rfl, ok⟩ := I
  exact ⟨rfl, st_R ok⟩
theorem i_vc_parent {k : Nat} {u : SX} {v : SY} (I : i_Rel k u v) (hk : k + 4 ≤ 2048) (v1 : Int32) : wpX_parent (fun r => wpY_parent (fun r' => r' = r ∧ i_Rel (k + 4) u v) v v1) u v1 := by
  obtain ⟨n, p, m, t, f, ma, al, le, rfl, rfl, ok⟩ := I
  have hn := ok.1
  unfold wpX_parent
  rcases st_cl n hn v1 with hx | ⟨j, hj, rfl⟩
  · refine st_xc_o hx (br_t rfl ?_)
    unfold wpY_parent
    exact st_yc_o hx (br_t rfl ⟨rfl, st_R ok⟩)
  · have hj10 : j < 10 := by omega
    refine st_xc_i hj hn (br_f (by decide) ⟨vp_in_nI hj10 (by decide), ?_⟩)
    unfold wpY_parent
    exact st_yc_i hj hn (br_f (by decide) ⟨vp_in_nI hj10 (by decide), rfl, st_R ok⟩)
/-! ===== send, sendSuper, owner ===== -/
def st_me (p m : Nat → Int32) (s : Nat) (x : Int32) : Int32 := if st_ow p m s 10 x = -1 then 0 else m ((st_ow p m s 10 x).toNatClampNeg * 8 + s)
section
variable {n : Nat} {p m t f ma al le : Nat → Int32}
theorem st_me_n (p m : Nat → Int32) (s : Nat) : st_me p m s (-1) = 0 := by
  unfold st_me; rw [st_ow_n]; rfl
theorem st_xme (ok : st_Ok n p m) {s : Nat} (hs : s < 8) {post : Int32 → Prop} {x : Int32} (hx : st_PV n x) (hp : post (st_me p m s x)) : wpX_methodFrom post (nI n, p, m, t, f) x (nI s) := by
  unfold wpX_methodFrom
  refine st_xo ok hs hx ?_
  have hr := st_ow_pv ok s 10 x hx
  unfold st_me at hp
  revert hp hr
  generalize st_ow p m s 10 x = r
  intro hp hr
  rcases hr with rfl | ⟨j, hj, rfl⟩
  · exact br_t rfl hp
  · have hj10 : j < 10 := Nat.lt_of_lt_of_le hj ok.1
    rw [if_neg (st_nn hj10), nI_clamp (by omega)] at hp
    refine br_f (st_nn hj10) ⟨st_v1 hj10 hs, ?_⟩
    rw [st_i1 hj10 hs]
    exact hp
theorem st_yse (ok : st_Ok n p m) {s : Nat} (hs : s < 8) {post : Int32 → Prop} {i : Nat} (hi : i < n) (hp : post (st_me p m s (nI i))) : wpY_send post (nI n, p, m, ma, al, le) (nI i) (nI s) := by
  unfold wpY_send
  refine st_yo ok hs hi ?_
  have hr := st_ow_pv ok s 10 (nI i) (Or.inr ⟨i, hi, rfl⟩)
  unfold st_me at hp
  revert hp hr
  generalize st_ow p m s 10 (nI i) = r
  intro hp hr
  rcases hr with rfl | ⟨j, hj, rfl⟩
  · exact br_f (by decide) hp
  · have hj10 : j < 10 := Nat.lt_of_lt_of_le hj ok.1
    rw [if_neg (st_nn hj10), nI_clamp (by omega)] at hp
    refine br_t (nI_pos' (by omega)) ⟨st_v2 hj10 hs, ?_⟩
    rw [st_i2 hj10 hs]
    exact hp
theorem st_yse_c {post : Int32 → Prop} {x : Int32} (hx : x < 0 ∨ nI n ≤ x) (y : Int32) (hp : post 0) : wpY_send post (nI n, p, m, ma, al, le) x y := by
  unfold wpY_send
  exact st_yo_c hx y (br_f (by decide) hp)
theorem st_yse_s (hn : n ≤ 10) {post : Int32 → Prop} {j : Nat} (hj : j < n) {y : Int32} (hy : y < 0 ∨ nI 8 ≤ y) (hp : post 0) : wpY_send post (nI n, p, m, ma, al, le) (nI j) y := by
  unfold wpY_send
  exact st_yo_s hn hj hy (br_f (by decide) hp)
theorem st_se (y : Int32) : (y < 0 ∨ nI 8 ≤ y) ∨ ∃ s, s < 8 ∧ y = nI s := by
  rcases pk_ix y (n := 8) (by decide) with h | h | h
  · exact Or.inl (Or.inl h)
  · exact Or.inl (Or.inr h)
  · exact Or.inr h
end
theorem i_vc_send {k : Nat} {u : SX} {v : SY} (I : i_Rel k u v) (hk : k + 4 ≤ 2048) (v1 : Int32) (v2 : Int32) : wpX_send (fun r => wpY_send (fun r' => r' = r ∧ i_Rel (k + 4) u v) v v1 v2) u v1 v2 := by
  obtain ⟨n, p, m, t, f, ma, al, le, rfl, rfl, ok⟩ := I
  have hn := ok.1
  have J : ∀ {k : Nat}, i_Rel k (nI n, p, m, t, f) (nI n, p, m, ma, al, le) := st_R ok
  unfold wpX_send
  rcases st_cl n hn v1 with hx | ⟨j, hj, rfl⟩
  · exact st_xc_o hx (br_t rfl (st_yse_c hx v2 ⟨rfl, J⟩))
  · refine st_xc_i hj hn (br_f (by decide) ?_)
    rcases st_se v2 with hy | ⟨s, hs, rfl⟩
    · exact st_xs_o hy (br_t rfl (st_yse_s hn hj hy ⟨rfl, J⟩))
    · exact st_xs_i hs (br_f (by decide) (st_xme ok hs (Or.inr ⟨j, hj, rfl⟩) (st_yse ok hs hj ⟨rfl, J⟩)))
theorem i_vc_sendSuper {k : Nat} {u : SX} {v : SY} (I : i_Rel k u v) (hk : k + 4 ≤ 2048) (v1 : Int32) (v2 : Int32) : wpX_sendSuper (fun r => wpY_sendSuper (fun r' => r' = r ∧ i_Rel (k + 4) u v) v v1 v2) u v1 v2 := by
  obtain ⟨n, p, m, t, f, ma, al, le, rfl, rfl, ok⟩ := I
  have hn := ok.1
  have J : ∀ {k : Nat}, i_Rel k (nI n, p, m, t, f) (nI n, p, m, ma, al, le) := st_R ok
  unfold wpX_sendSuper
  rcases st_cl n hn v1 with hx | ⟨j, hj, rfl⟩
  · refine st_xc_o hx (br_t rfl ?_)
    unfold wpY_sendSuper wpY_parent
    exact st_yc_o hx (br_t rfl (st_yse_c (Or.inl st_m1) v2 ⟨rfl, J⟩))
  · have hj10 : j < 10 := by omega
    have ej : (nI j).toNatClampNeg = j := nI_clamp (by omega)
    refine st_xc_i hj hn (br_f (by decide) ?_)
    rcases st_se v2 with hy | ⟨s, hs, rfl⟩
    · refine st_xs_o hy (br_t rfl ?_)
      unfold wpY_sendSuper wpY_parent
      refine st_yc_i hj hn (br_f (by decide) ⟨vp_in_nI hj10 (by decide), ?_⟩)
      rw [ej]
      rcases ok.2.1 j hj with h | ⟨i, hi, h⟩
      · rw [h]; exact st_yse_c (Or.inl st_m1) v2 ⟨rfl, J⟩
      · rw [h]; exact st_yse_s hn hi hy ⟨rfl, J⟩
    · refine st_xs_i hs (br_f (by decide) ⟨vp_in_nI hj10 (by decide), ?_⟩)
      rw [ej]
      refine st_xme ok hs (ok.2.1 j hj) ?_
      unfold wpY_sendSuper wpY_parent
      refine st_yc_i hj hn (br_f (by decide) ⟨vp_in_nI hj10 (by decide), ?_⟩)
      rw [ej]
      rcases ok.2.1 j hj with h | ⟨i, hi, h⟩
      · rw [h, st_me_n]; exact st_yse_c (Or.inl st_m1) _ ⟨rfl, J⟩
      · rw [h]; exact st_yse ok hs hi ⟨rfl, J⟩
theorem i_vc_owner {k : Nat} {u : SX} {v : SY} (I : i_Rel k u v) (hk : k + 4 ≤ 2048) (v1 : Int32) (v2 : Int32) : wpX_owner (fun r => wpY_owner (fun r' => r' = r ∧ i_Rel (k + 4) u v) v v1 v2) u v1 v2 := by
  obtain ⟨n, p, m, t, f, ma, al, le, rfl, rfl, ok⟩ := I
  have hn := ok.1
  have J : ∀ {k : Nat}, i_Rel k (nI n, p, m, t, f) (nI n, p, m, ma, al, le) := st_R ok
  unfold wpX_owner
  rcases st_cl n hn v1 with hx | ⟨j, hj, rfl⟩
  · exact st_xc_o hx (br_t rfl (st_yo_c hx v2 ⟨rfl, J⟩))
  · refine st_xc_i hj hn (br_f (by decide) ?_)
    rcases st_se v2 with hy | ⟨s, hs, rfl⟩
    · exact st_xs_o hy (br_t rfl (st_yo_s hn hj hy ⟨rfl, J⟩))
    · exact st_xs_i hs (br_f (by decide) (st_xo ok hs (Or.inr ⟨j, hj, rfl⟩) (st_yo ok hs hj ⟨rfl, J⟩)))
/-! ===== understands, heirs, apart ===== -/
theorem i_vc_understands {k : Nat} {u : SX} {v : SY} (I : i_Rel k u v) (hk : k + 4 ≤ 2048) (v1 : Int32) : wpX_understands (fun r => wpY_understands (fun r' => r' = r ∧ i_Rel (k + 4) u v) v v1) u v1 := by
  obtain ⟨n, p, m, t, f, ma, al, le, rfl, rfl, ok⟩ := I
  have hn := ok.1
  unfold wpX_understands
  rcases st_cl n hn v1 with hx | ⟨j, hj, rfl⟩
  · exact st_xc_o hx (br_t rfl (st_yu_o hx ⟨rfl, st_R ok⟩))
  · exact st_xc_i hj hn (br_f (by decide) (st_xu ok (Or.inr ⟨j, hj, rfl⟩) (st_yu ok hj ⟨rfl, st_R ok⟩)))
theorem i_vc_heirs {k : Nat} {u : SX} {v : SY} (I : i_Rel k u v) (hk : k + 4 ≤ 2048) (v1 : Int32) (v2 : Int32) : wpX_heirs (fun r => wpY_heirs (fun r' => r' = r ∧ i_Rel (k + 4) u v) v v1 v2) u v1 v2 := by
  obtain ⟨n, p, m, t, f, ma, al, le, rfl, rfl, ok⟩ := I
  have hn := ok.1
  have J : ∀ {k : Nat}, i_Rel k (nI n, p, m, t, f) (nI n, p, m, ma, al, le) := st_R ok
  unfold wpX_heirs
  refine st_xd hn v1 v2 (fun hx => br_t rfl ?_) (fun j hj ej hy => br_t rfl ?_) (fun j s hj hs ej es h => br_t rfl ?_) (fun j s hj hs ej es h => br_f (by decide) ?_)
  · refine ⟨1, ?_⟩
    rcases Nat.eq_zero_or_pos n with h0 | h0
    · exact br_t (by rw [h0]; decide) ⟨rfl, J⟩
    · exact br_f (nI_nle h0 (by omega)) (st_yc_o hx (br_t rfl ⟨rfl, J⟩))
  · subst ej
    refine ⟨n + 1, st_yhe hn hj (g := fun _ => -1) (fun i hi post hp => st_yo_s hn hi hy hp) _ n 0 (Nat.zero_add n) 0 ?_⟩
    rw [st_or_0 n 0 0 (fun i _ _ => if_neg (fun z => st_nn (j := j) (by omega) z.symm))]
    exact ⟨rfl, J⟩
  · subst ej es
    refine ⟨n + 1, st_yhe hn hj (g := fun i => st_ow p m s 10 (nI i)) (fun i hi post hp => st_yo ok hs hi hp) _ n 0 (Nat.zero_add n) 0 ?_⟩
    rw [st_or_0 n 0 0 (fun i _ hi => if_neg (fun z => st_ow_df ok s (c := j) (by omega) 10 (nI i) (Or.inr ⟨i, by omega, rfl⟩) z h))]
    exact ⟨rfl, J⟩
  · subst ej es
    refine ⟨n + 1, st_xhe ok hs (nI j) _ n 0 (Nat.zero_add n) 0 ?_⟩
    exact ⟨n + 1, st_yhe hn hj (g := fun i => st_ow p m s 10 (nI i)) (fun i hi post hp => st_yo ok hs hi hp) _ n 0 (Nat.zero_add n) 0 ⟨rfl, J⟩⟩
theorem st_ap (x y : Int32) : (255 &&& (x ^^^ (-1))) &&& (y ^^^ (-1)) = 255 &&& ((x ||| y) ^^^ (-1)) := by
  apply b_ext
  intro k hk
  rw [b_and, b_and, b_and, b_xor, b_xor, b_xor, b_or, b_m1 k hk]
  cases bt 255 k <;> cases bt x k <;> cases bt y k <;> rfl
theorem i_vc_apart {k : Nat} {u : SX} {v : SY} (I : i_Rel k u v) (hk : k + 4 ≤ 2048) (v1 : Int32) : wpX_apart (fun r => wpY_apart (fun r' => r' = r ∧ i_Rel (k + 4) u v) v v1) u v1 := by
  obtain ⟨n, p, m, t, f, ma, al, le, rfl, rfl, ok⟩ := I
  have J : ∀ {k : Nat}, i_Rel k (nI n, p, m, t, f) (nI n, p, m, ma, al, le) := st_R ok
  unfold wpX_apart
  rcases st_se v1 with hy | ⟨s, hs, rfl⟩
  · refine st_xs_o hy (br_t rfl ?_)
    exact br_c (fun _ => ⟨rfl, J⟩) (fun h0 => br_f (st_n7 (hy.resolve_left h0)) ⟨rfl, J⟩)
  · refine st_xs_i hs (br_f (by decide) (st_xw ok s (nm_e ?_)))
    exact br_f (nI_pos (by omega)) (br_t (st_7 hs) (st_yw ok s ⟨st_ap _ _, J⟩))
/-! ===== crowd, colours ===== -/
theorem i_vc_crowd {k : Nat} {u : SX} {v : SY} (I : i_Rel k u v) (hk : k + 4 ≤ 2048) : wpX_crowd (fun r u' => wpY_crowd (fun r' v' => r' = r ∧ i_Rel (k + 4) u' v') v) u := by
  obtain ⟨n, p, m, t, f, ma, al, le, rfl, rfl, ok⟩ := I
  unfold wpX_crowd
  refine st_xf ok (fun t' ht => ⟨256, st_xmx (nI n) ht _ 255 1 rfl 0 ?_⟩)
  unfold wpY_crowd
  exact st_yf ok (fun ma' hm => ⟨256, st_ymx (nI n) hm _ 255 1 rfl 0 ⟨rfl, st_R ok⟩⟩)
theorem i_vc_colours {k : Nat} {u : SX} {v : SY} (I : i_Rel k u v) (hk : k + 4 ≤ 2048) : wpX_colours (fun r u' => wpY_colours (fun r' v' => r' = r ∧ i_Rel (k + 4) u' v') v) u := by
  obtain ⟨n, p, m, t, f, ma, al, le, rfl, rfl, ok⟩ := I
  obtain ⟨U, hU, eU⟩ := st_us_n n p m
  unfold wpX_colours
  refine st_xf ok (fun t' ht => st_xl (nI n) ht (fun f' f0 hf => st_xa ok ?_))
  rw [eU]
  refine ⟨vp_in_nI hU (by decide), ?_⟩
  rw [nI_clamp (by omega)]
  unfold wpY_colours
  refine st_yf ok (fun ma' hm => ⟨9, st_yus (nI n) hU hm (fun al' l' l0 hl => ⟨?_, st_R ok⟩) 8 0 rfl 0 ((st_us_eq n p m).trans eU)⟩)
  exact st_tab f0 l0 hf hl 256 U hU hU (st_df_self U)
end
