/-! pasted from kit/rows -/
theorem pk_us {f : Nat → Int32} {k : Nat} {x : Int32} : upd f k x k = x := if_pos rfl
theorem pk_un {f : Nat → Int32} {k j : Nat} {x : Int32} (h : j ≠ k) : upd f k x j = f j := if_neg h
theorem pk_mul (a b : Nat) : nI a * nI b = nI (a * b) := (Int32.ofNat_mul a b).symm
theorem pk_ix (x : Int32) {n : Nat} (hn : n < 2 ^ 31) : x < 0 ∨ nI n ≤ x ∨ ∃ j : Nat, j < n ∧ x = nI j := by
  by_cases h : x < 0
  · exact Or.inl h
  · obtain ⟨j, hj, rfl⟩ := nI_of h
    by_cases h2 : j < n
    · exact Or.inr (Or.inr ⟨j, h2, rfl⟩)
    · exact Or.inr (Or.inl (nI_le (by omega) hj))
theorem pk_in {x : Int32} (n N : Nat) (h : n < N) (hx : x = nI n := by rfl) (hN : N < 2 ^ 31 := by omega) : vp_in x N := by
  subst hx
  exact vp_in_nI h hN
theorem pk_cl {x : Int32} (n : Nat) (hx : x = nI n := by rfl) (h : n < 2 ^ 31 := by omega) : x.toNatClampNeg = n := by
  subst hx
  exact nI_clamp h
theorem pk_tn {n : Nat} (h : n < 2 ^ 32) : (nI n).toBitVec.toNat = n := Nat.mod_eq_of_lt h
theorem pk_and (x : Int32) {m : Int32} (k : Nat) (hm : m.toBitVec.toNat = 2 ^ k - 1) : x &&& m = nI (x.toBitVec.toNat % 2 ^ k) := by
  apply Int32.toBitVec_inj.mp
  apply BitVec.eq_of_toNat_eq
  rw [Int32.toBitVec_and, BitVec.toNat_and, hm, Nat.and_two_pow_sub_one_eq_mod]
  show _ = (BitVec.ofNat 32 _).toNat
  rw [BitVec.toNat_ofNat]
  exact (Nat.mod_eq_of_lt (Nat.lt_of_le_of_lt (Nat.mod_le _ _) x.toBitVec.isLt)).symm
theorem pk_andE (x : Int32) {m : Int32} (k : Nat) (hm : m.toBitVec.toNat = 2 ^ k - 1) : ∃ j : Nat, j < 2 ^ k ∧ x &&& m = nI j := ⟨_, Nat.mod_lt _ (Nat.two_pow_pos k), pk_and x k hm⟩
def bt (x : Int32) (i : Nat) : Bool := x.toBitVec.getLsbD i
theorem b_ext {x y : Int32} (h : ∀ i, i < 32 → bt x i = bt y i) : x = y := Int32.toBitVec_inj.mp (BitVec.eq_of_getLsbD_eq (fun i hi => h i hi))
theorem b_or (x y : Int32) (i : Nat) : bt (x ||| y) i = (bt x i || bt y i) := by unfold bt; rw [Int32.toBitVec_or, BitVec.getLsbD_or]
theorem b_and (x y : Int32) (i : Nat) : bt (x &&& y) i = (bt x i && bt y i) := by unfold bt; rw [Int32.toBitVec_and, BitVec.getLsbD_and]
theorem b_xor (x y : Int32) (i : Nat) : bt (x ^^^ y) i = (bt x i ^^ bt y i) := by unfold bt; rw [Int32.toBitVec_xor, BitVec.getLsbD_xor]
theorem b_big {x : Int32} {i : Nat} (h : 32 ≤ i) : bt x i = false := BitVec.getLsbD_of_ge _ _ h
theorem b_255 (i : Nat) : bt 255 i = decide (i < 8) := by
  rcases Nat.lt_or_ge i 32 with h | h
  · exact (by decide +kernel : ∀ i, i < 32 → bt 255 i = decide (i < 8)) i h
  · rw [b_big h, decide_eq_false (by omega)]
theorem b_m1 : ∀ i, i < 32 → bt (-1) i = true := by decide +kernel
theorem b_0 (i : Nat) : bt 0 i = false := BitVec.getLsbD_zero
theorem s_l : ∀ n, n < 32 → ((nI n &&& 31).toBitVec.smod 32).toNat = n := by decide +kernel
theorem b_shl (n : Nat) (hn : n < 32) (x : Int32) {i : Nat} (hi : i < 32) : bt (x <<< (nI n &&& 31)) i = (decide (n ≤ i) && bt x (i - n)) := by
  unfold bt
  rw [Int32.toBitVec_shiftLeft]
  show (x.toBitVec <<< ((nI n &&& 31).toBitVec.smod 32).toNat).getLsbD i = _
  rw [s_l n hn, BitVec.getLsbD_shiftLeft]
  rcases Nat.lt_or_ge i n with h | h
  · simp [h, Nat.not_le.mpr h]
  · simp [hi, h, Nat.not_lt.mpr h]
theorem b_sshr (n : Nat) (hn : n < 32) (x : Int32) {i : Nat} (hi : i < 32) : bt (x >>> (nI n &&& 31)) i = if n + i < 32 then bt x (n + i) else bt x 31 := by
  unfold bt
  rw [Int32.toBitVec_shiftRight]
  show (x.toBitVec.sshiftRight ((nI n &&& 31).toBitVec.smod 32).toNat).getLsbD i = _
  rw [s_l n hn, BitVec.getLsbD_sshiftRight, BitVec.msb_eq_getLsbD_last]
  simp [hi]
/-! ===== the pure picture ===== -/
/-- a class's number below n, or -1 -/
def st_PV (n : Nat) (x : Int32) : Prop := x = -1 ∨ ∃ j : Nat, j < n ∧ x = nI j
/-- what both sides keep alike: n classes, their parents p, their methods m -/
def st_Ok (n : Nat) (p m : Nat → Int32) : Prop := n ≤ 10 ∧ (∀ j, j < n → st_PV n (p j)) ∧ (∀ j, ¬ m j < 0)
/-- the owner of selector s on the way up from x, in at most d steps -/
def st_ow (p m : Nat → Int32) (s : Nat) : Nat → Int32 → Int32
  | 0, _ => -1
  | d + 1, x => if x = -1 then -1 else if m (x.toNatClampNeg * 8 + s) = 0 then st_ow p m s d (p x.toNatClampNeg) else x
/-- a ||| g i ||| g (i + 1) .., d of them -/
def st_or (g : Nat → Int32) : Nat → Nat → Int32 → Int32
  | 0, _, a => a
  | d + 1, i, a => st_or g d (i + 1) (a ||| g i)
def st_su (g : Nat → Int32) : Nat → Nat → Int32 → Int32
  | 0, _, a => a
  | d + 1, i, a => st_su g d (i + 1) (a + g i)
def st_al (P : Nat → Bool) : Nat → Nat → Bool
  | 0, _ => true
  | d + 1, i => P i && st_al P d (i + 1)
def st_b (b : Bool) : Int32 := if b = true then 1 else 0
def st_bit (s : Nat) : Int32 := (1 : Int32) <<< (nI s &&& 31)
/-- bit s of x, as 0 or 1 -/
def st_g (x : Int32) (s : Nat) : Int32 := (x >>> (nI s &&& 31)) &&& 1
/-- the selectors that class x understands -/
def st_un (p m : Nat → Int32) (x : Int32) : Int32 := st_or (fun s => if st_ow p m s 10 x = -1 then 0 else st_bit s) 8 0 0
/-- what is understood beside s -/
def st_wi (n : Nat) (p m : Nat → Int32) (s : Nat) : Int32 := st_or (fun c => if st_g (st_un p m (nI c)) s = 0 then 0 else st_un p m (nI c)) n 0 0
theorem st_8 : (8 : Int32) = nI 8 := rfl
theorem st_nn {j : Nat} (hj : j < 10) : ¬ nI j = -1 := by
  intro h
  have h2 := nI_pos (n := j) (by omega)
  rw [h] at h2
  exact h2 (by decide)
theorem st_ix (j s : Nat) : nI j * 8 + nI s = nI (j * 8 + s) := by
  rw [st_8, pk_mul, nI_add]
theorem st_ix' (j s : Nat) : 8 * nI j + nI s = nI (j * 8 + s) := by
  rw [st_8, pk_mul, nI_add, Nat.mul_comm]
theorem st_m1 : (-1 : Int32) < 0 := by decide
theorem st_pl {n : Nat} {x : Int32} (hn : n ≤ 10) (h : st_PV n x) : x < 0 ↔ x = -1 := by
  rcases h with rfl | ⟨j, hj, rfl⟩
  · exact ⟨fun _ => rfl, fun _ => st_m1⟩
  · exact ⟨fun h => absurd h (nI_pos (by omega)), fun h => absurd h (st_nn (by omega))⟩
theorem st_ow_n (p m : Nat → Int32) (s d : Nat) : st_ow p m s d (-1) = -1 := by
  cases d with
  | zero => rfl
  | succ d => exact if_pos rfl
theorem st_ow_t {p m : Nat → Int32} {s j : Nat} (d : Nat) (hj : j < 10) (h : m (j * 8 + s) = 0) : st_ow p m s (d + 1) (nI j) = st_ow p m s d (p j) := by
  have e : (nI j).toNatClampNeg = j := nI_clamp (by omega)
  show (if nI j = -1 then -1 else if m ((nI j).toNatClampNeg * 8 + s) = 0 then st_ow p m s d (p (nI j).toNatClampNeg) else nI j) = _
  rw [if_neg (st_nn hj), e, if_pos h]
theorem st_ow_f {p m : Nat → Int32} {s j : Nat} (d : Nat) (hj : j < 10) (h : ¬ m (j * 8 + s) = 0) : st_ow p m s (d + 1) (nI j) = nI j := by
  have e : (nI j).toNatClampNeg = j := nI_clamp (by omega)
  show (if nI j = -1 then -1 else if m ((nI j).toNatClampNeg * 8 + s) = 0 then st_ow p m s d (p (nI j).toNatClampNeg) else nI j) = _
  rw [if_neg (st_nn hj), e, if_neg h]
theorem st_ow_pv {n : Nat} {p m : Nat → Int32} (ok : st_Ok n p m) (s : Nat) : ∀ (d : Nat) (x : Int32), st_PV n x → st_PV n (st_ow p m s d x) := by
  intro d
  induction d with
  | zero => intro x _; exact Or.inl rfl
  | succ d ih =>
    intro x hx
    rcases hx with rfl | ⟨j, hj, rfl⟩
    · rw [st_ow_n]; exact Or.inl rfl
    · have hj10 : j < 10 := Nat.lt_of_lt_of_le hj ok.1
      by_cases h : m (j * 8 + s) = 0
      · rw [st_ow_t d hj10 h]; exact ih _ (ok.2.1 j hj)
      · rw [st_ow_f d hj10 h]; exact Or.inr ⟨j, hj, rfl⟩
theorem st_ow_df {n : Nat} {p m : Nat → Int32} (ok : st_Ok n p m) (s : Nat) {c : Nat} (hc : c < 10) : ∀ (d : Nat) (x : Int32), st_PV n x → st_ow p m s d x = nI c → ¬ m (c * 8 + s) = 0 := by
  intro d
  induction d with
  | zero => intro x _ h; exact absurd h.symm (st_nn hc)
  | succ d ih =>
    intro x hx hr
    rcases hx with rfl | ⟨j, hj, rfl⟩
    · rw [st_ow_n] at hr; exact absurd hr.symm (st_nn hc)
    · have hj10 : j < 10 := Nat.lt_of_lt_of_le hj ok.1
      by_cases h : m (j * 8 + s) = 0
      · rw [st_ow_t d hj10 h] at hr; exact ih _ (ok.2.1 j hj) hr
      · rw [st_ow_f d hj10 h, nI_eq (by omega) (by omega)] at hr
        rw [← hr]; exact h
theorem st_01 (y : Int32) : y &&& 1 = 0 ∨ y &&& 1 = 1 := by
  obtain ⟨j, hj, e⟩ := pk_andE y (m := 1) 1 (by decide)
  rw [e]
  rcases j with _ | _ | j
  · exact Or.inl rfl
  · exact Or.inr rfl
  · omega
theorem st_g1 (x : Int32) (s : Nat) : st_g x s = 1 ↔ ¬ st_g x s = 0 := by
  rcases st_01 (x >>> (nI s &&& 31)) with h | h
  · constructor
    · intro h1 h2; exact absurd (h1.symm.trans h2) (by decide)
    · intro h1; exact absurd h h1
  · constructor
    · intro h1 h2; exact absurd (h1.symm.trans h2) (by decide)
    · intro h1; exact h
theorem st_gb (x : Int32) {s : Nat} (hs : s < 32) : st_g x s = 0 ↔ bt x s = false := by
  have e : bt (st_g x s) 0 = bt x s := by
    unfold st_g
    rw [b_and, b_sshr s hs x (by omega), if_pos (by omega), Nat.add_zero, show bt 1 0 = true from by decide, Bool.and_true]
  constructor
  · intro h; rw [← e, h]; exact b_0 0
  · intro h
    rcases st_01 (x >>> (nI s &&& 31)) with h1 | h1
    · exact h1
    · have h2 : st_g x s = 1 := h1
      rw [h2] at e
      rw [h] at e
      exact absurd e (by decide)
theorem st_or_bt (g : Nat → Int32) (k : Nat) : ∀ (d i : Nat) (a : Int32), bt (st_or g d i a) k = true ↔ (bt a k = true ∨ ∃ j, i ≤ j ∧ j < i + d ∧ bt (g j) k = true) := by
  intro d
  induction d with
  | zero =>
    intro i a
    exact ⟨fun h => Or.inl h, fun h => h.elim id (fun ⟨j, h1, h2, _⟩ => by omega)⟩
  | succ d ih =>
    intro i a
    show bt (st_or g d (i + 1) (a ||| g i)) k = true ↔ _
    rw [ih, b_or, Bool.or_eq_true]
    constructor
    · rintro ((h | h) | ⟨j, h1, h2, h3⟩)
      · exact Or.inl h
      · exact Or.inr ⟨i, by omega, by omega, h⟩
      · exact Or.inr ⟨j, by omega, by omega, h3⟩
    · rintro (h | ⟨j, h1, h2, h3⟩)
      · exact Or.inl (Or.inl h)
      · by_cases e : j = i
        · rw [e] at h3; exact Or.inl (Or.inr h3)
        · exact Or.inr ⟨j, by omega, by omega, h3⟩
theorem st_or_0 {g : Nat → Int32} : ∀ (d i : Nat) (a : Int32), (∀ j, i ≤ j → j < i + d → g j = 0) → st_or g d i a = a := by
  intro d
  induction d with
  | zero => intro i a _; rfl
  | succ d ih =>
    intro i a h
    show st_or g d (i + 1) (a ||| g i) = a
    rw [h i (by omega) (by omega), Int32.or_zero]
    exact ih (i + 1) a (fun j h1 h2 => h j (by omega) (by omega))
theorem st_or_cg {g g' : Nat → Int32} : ∀ (d i : Nat) (a : Int32), (∀ j, i ≤ j → j < i + d → g j = g' j) → st_or g d i a = st_or g' d i a := by
  intro d
  induction d with
  | zero => intro i a _; rfl
  | succ d ih =>
    intro i a h
    show st_or g d (i + 1) (a ||| g i) = st_or g' d (i + 1) (a ||| g' i)
    rw [h i (by omega) (by omega)]
    exact ih (i + 1) _ (fun j h1 h2 => h j (by omega) (by omega))
theorem st_bit_b : ∀ s, s < 8 → ∀ k, k < 32 → bt (st_bit s) k = true → k < 8 := by decide +kernel
theorem st_un_b (p m : Nat → Int32) (x : Int32) {k : Nat} (h : bt (st_un p m x) k = true) : k < 8 := by
  have hk : k < 32 := by
    rcases Nat.lt_or_ge k 32 with h1 | h1
    · exact h1
    · rw [b_big h1] at h; exact absurd h (by decide)
  unfold st_un at h
  rw [st_or_bt] at h
  rcases h with h | ⟨j, h1, h2, h3⟩
  · rw [b_0] at h; exact absurd h (by decide)
  · split at h3
    · rw [b_0] at h3; exact absurd h3 (by decide)
    · exact st_bit_b j (by omega) k hk h3
/-- all that is understood -/
def st_us (n : Nat) (p m : Nat → Int32) : Int32 := st_or (fun c => st_un p m (nI c)) n 0 0
theorem st_wi_bt (n : Nat) (p m : Nat → Int32) {s : Nat} (hs : s < 8) (k : Nat) : bt (st_wi n p m s) k = true ↔ ∃ c, c < n ∧ bt (st_un p m (nI c)) s = true ∧ bt (st_un p m (nI c)) k = true := by
  unfold st_wi
  rw [st_or_bt]
  constructor
  · rintro (h | ⟨j, h1, h2, h3⟩)
    · rw [b_0] at h; exact absurd h (by decide)
    · split at h3
      · rw [b_0] at h3; exact absurd h3 (by decide)
      · rename_i hg
        refine ⟨j, by omega, ?_, h3⟩
        rw [st_gb _ (by omega)] at hg
        exact (Bool.not_eq_false _).mp hg
  · rintro ⟨c, h1, h2, h3⟩
    refine Or.inr ⟨c, by omega, by omega, ?_⟩
    rw [if_neg]
    · exact h3
    · rw [st_gb _ (by omega), h2]; decide
theorem st_us_eq (n : Nat) (p m : Nat → Int32) : st_or (st_wi n p m) 8 0 0 = st_us n p m := by
  apply b_ext
  intro k _
  apply Bool.eq_iff_iff.mpr
  unfold st_us
  rw [st_or_bt, st_or_bt]
  constructor
  · rintro (h | ⟨s, h1, h2, h3⟩)
    · exact Or.inl h
    · rw [st_wi_bt n p m (by omega)] at h3
      obtain ⟨c, c1, c2, c3⟩ := h3
      exact Or.inr ⟨c, by omega, by omega, c3⟩
  · rintro (h | ⟨c, h1, h2, h3⟩)
    · exact Or.inl h
    · have hk := st_un_b p m _ h3
      refine Or.inr ⟨k, by omega, by omega, ?_⟩
      rw [st_wi_bt n p m hk]
      exact ⟨c, by omega, h3, h3⟩
theorem st_us_n (n : Nat) (p m : Nat → Int32) : ∃ U, U < 256 ∧ st_us n p m = nI U := by
  have e : st_us n p m = st_us n p m &&& 255 := by
    apply b_ext
    intro k _
    rw [b_and, b_255]
    apply Bool.eq_iff_iff.mpr
    rw [Bool.and_eq_true]
    constructor
    · intro h
      refine ⟨h, ?_⟩
      unfold st_us at h
      rw [st_or_bt] at h
      rcases h with h | ⟨c, h1, h2, h3⟩
      · rw [b_0] at h; exact absurd h (by decide)
      · exact decide_eq_true (st_un_b p m _ h3)
    · exact fun h => h.1
  obtain ⟨j, hj, h⟩ := pk_andE (st_us n p m) (m := 255) 8 (by decide)
  exact ⟨j, hj, e.trans h⟩
