/-! ===== is a class, is a selector ===== -/
section
variable {n : Nat} {p m t f ma al le : Nat → Int32}
theorem st_xc_i {j : Nat} {post : Int32 → Prop} (hj : j < n) (hn : n ≤ 10) (h : post 1) : wpX_isClass post (nI n, p, m, t, f) (nI j) :=
  br_f (nI_pos (by omega)) (br_f (nI_ge hj (by omega)) h)
theorem st_xc_o {x : Int32} {post : Int32 → Prop} (hx : x < 0 ∨ nI n ≤ x) (h : post 0) : wpX_isClass post (nI n, p, m, t, f) x := by
  by_cases h0 : x < 0
  · exact br_t h0 h
  · exact br_f h0 (br_t (hx.resolve_left h0) h)
theorem st_yc_i {j : Nat} {post : Int32 → Prop} (hj : j < n) (hn : n ≤ 10) (h : post 1) : wpY_is post (nI n, p, m, ma, al, le) (nI j) :=
  br_f (nI_pos (by omega)) (br_f (nI_ge hj (by omega)) h)
theorem st_yc_o {x : Int32} {post : Int32 → Prop} (hx : x < 0 ∨ nI n ≤ x) (h : post 0) : wpY_is post (nI n, p, m, ma, al, le) x := by
  by_cases h0 : x < 0
  · exact br_t h0 h
  · exact br_f h0 (br_t (hx.resolve_left h0) h)
theorem st_xs_i {u : SX} {s : Nat} {post : Int32 → Prop} (hs : s < 8) (h : post 1) : wpX_isSelector post u (nI s) := by
  obtain ⟨c, a1, a2, a3, a4⟩ := u
  exact br_f (nI_pos (by omega)) (br_f (nI_ge (b := 8) hs (by decide)) h)
theorem st_xs_o {u : SX} {y : Int32} {post : Int32 → Prop} (hy : y < 0 ∨ nI 8 ≤ y) (h : post 0) : wpX_isSelector post u y := by
  obtain ⟨c, a1, a2, a3, a4⟩ := u
  by_cases h0 : y < 0
  · exact br_t h0 h
  · exact br_f h0 (br_t (hy.resolve_left h0) h)
theorem st_ny {x : Int32} (h : x < 0 ∨ nI n ≤ x) (hn : n ≤ 10) {j : Nat} (hj : j < n) : ¬ x = nI j := by
  rintro rfl
  rcases h with h | h
  · exact nI_pos (by omega) h
  · exact nI_ge hj (by omega) h
theorem st_7 {s : Nat} (hs : s < 8) : nI s ≤ 7 := nI_le (b := 7) (by omega) (by decide)
theorem st_n7 {y : Int32} (h : nI 8 ≤ y) : ¬ y ≤ 7 := by
  intro h1
  exact absurd (Int32.le_trans h h1) (by decide)
/-! ===== the way up ===== -/
theorem st_xow (ok : st_Ok n p m) {s : Nat} (hs : s < 8) (post : Int32 → Prop) : ∀ d i : Nat, i + d = 10 → ∀ x : Int32, st_PV n x → post (st_ow p m s d x) → wX_ownerFrom_5 post (nI s) (nI n) p m t f (d + 1) x (nI i) := by
  intro d
  induction d with
  | zero =>
    intro i hi x hx hp
    obtain rfl : i = 10 := by omega
    exact br_t (by decide) hp
  | succ d ih =>
    intro i hi x hx hp
    refine br_f (nI_ge (b := 10) (by omega) (by decide)) ?_
    rcases hx with rfl | ⟨j, hj, rfl⟩
    · exact br_t rfl hp
    · have hj10 : j < 10 := Nat.lt_of_lt_of_le hj ok.1
      have e1 : nI j * 8 + nI s = nI (j * 8 + s) := st_ix j s
      have e2 : (nI j * 8 + nI s).toNatClampNeg = j * 8 + s := by rw [e1]; exact nI_clamp (by omega)
      have e3 : (nI j).toNatClampNeg = j := nI_clamp (by omega)
      refine br_f (st_nn hj10) ⟨pk_in (j * 8 + s) 80 (by omega) e1, ?_⟩
      by_cases h : m (j * 8 + s) = 0
      · rw [st_ow_t d hj10 h] at hp
        exact br_t (by rw [e2]; exact h) ⟨vp_in_nI hj10 (by decide), nm_r (congrArg p e3) (nm_r (nI_1 i) (ih (i + 1) (by omega) _ (ok.2.1 j hj) hp))⟩
      · rw [st_ow_f d hj10 h] at hp
        exact br_f (by rw [e2]; exact h) hp
theorem st_xo (ok : st_Ok n p m) {s : Nat} (hs : s < 8) {post : Int32 → Prop} {x : Int32} (hx : st_PV n x) (hp : post (st_ow p m s 10 x)) : wpX_ownerFrom post (nI n, p, m, t, f) x (nI s) :=
  ⟨11, st_xow ok hs post 10 0 rfl x hx hp⟩
theorem st_m0 (ok : st_Ok n p m) (k : Nat) : m k ≤ 0 ↔ m k = 0 := by
  constructor
  · intro h
    exact Int32.le_antisymm h (Int32.not_lt.mp (ok.2.2 k))
  · intro h; rw [h]; decide
theorem st_yow (ok : st_Ok n p m) {s : Nat} (hs : s < 8) (post : Int32 → Prop) : ∀ d i : Nat, i + d = 10 → ∀ x : Int32, st_PV n x → post (st_ow p m s d x) → wY_owner_25 post (nI s) (nI n) p m ma al le (d + 1) x (nI i) := by
  intro d
  induction d with
  | zero =>
    intro i hi x hx hp
    obtain rfl : i = 10 := by omega
    exact br_t (by decide) hp
  | succ d ih =>
    intro i hi x hx hp
    refine br_f (nI_ge (b := 10) (by omega) (by decide)) ?_
    rcases hx with rfl | ⟨j, hj, rfl⟩
    · exact br_t st_m1 hp
    · have hj10 : j < 10 := Nat.lt_of_lt_of_le hj ok.1
      have e1 : 8 * nI j + nI s = nI (j * 8 + s) := st_ix' j s
      have e2 : (8 * nI j + nI s).toNatClampNeg = j * 8 + s := by rw [e1]; exact nI_clamp (by omega)
      have e3 : (nI j).toNatClampNeg = j := nI_clamp (by omega)
      refine br_f (nI_pos (by omega)) ⟨pk_in (j * 8 + s) 80 (by omega) e1, ?_⟩
      by_cases h : m (j * 8 + s) = 0
      · rw [st_ow_t d hj10 h] at hp
        exact br_t (by rw [e2, st_m0 ok]; exact h) ⟨vp_in_nI hj10 (by decide), nm_r (congrArg p e3) (nm_r (nI_1 i) (ih (i + 1) (by omega) _ (ok.2.1 j hj) hp))⟩
      · rw [st_ow_f d hj10 h] at hp
        exact br_f (by rw [e2, st_m0 ok]; exact h) hp
theorem st_yo (ok : st_Ok n p m) {s j : Nat} (hs : s < 8) {post : Int32 → Prop} (hj : j < n) (hp : post (st_ow p m s 10 (nI j))) : wpY_owner post (nI n, p, m, ma, al, le) (nI j) (nI s) := by
  unfold wpY_owner
  refine st_yc_i hj ok.1 (br_f (by decide) (br_f (nI_pos (by omega)) (br_t (st_7 hs) ⟨11, ?_⟩)))
  exact st_yow ok hs post 10 0 rfl _ (Or.inr ⟨j, hj, rfl⟩) hp
theorem st_yo_c {post : Int32 → Prop} {x : Int32} (hx : x < 0 ∨ nI n ≤ x) (y : Int32) (hp : post (-1)) : wpY_owner post (nI n, p, m, ma, al, le) x y := by
  unfold wpY_owner
  exact st_yc_o hx (br_t rfl hp)
theorem st_yo_s (hn : n ≤ 10) {post : Int32 → Prop} {j : Nat} (hj : j < n) {y : Int32} (hy : y < 0 ∨ nI 8 ≤ y) (hp : post (-1)) : wpY_owner post (nI n, p, m, ma, al, le) (nI j) y := by
  unfold wpY_owner
  refine st_yc_i hj hn (br_f (by decide) ?_)
  by_cases h0 : y < 0
  · exact br_t h0 hp
  · exact br_f h0 (br_f (st_n7 (hy.resolve_left h0)) hp)
/-! ===== what a class understands ===== -/
theorem st_xun (ok : st_Ok n p m) {x : Int32} (hx : st_PV n x) (post : Int32 → Prop) : ∀ d i : Nat, i + d = 8 → ∀ a : Int32, post (st_or (fun s => if st_ow p m s 10 x = -1 then 0 else st_bit s) d i a) → wX_selectorsOf_4 post x (nI n) p m t f (d + 1) a (nI i) := by
  intro d
  induction d with
  | zero =>
    intro i hi a hp
    obtain rfl : i = 8 := by omega
    exact br_t (by decide) hp
  | succ d ih =>
    intro i hi a hp
    have hp' : post (st_or (fun s => if st_ow p m s 10 x = -1 then 0 else st_bit s) d (i + 1) (a ||| (if st_ow p m i 10 x = -1 then 0 else st_bit i))) := hp
    refine br_f (nI_ge (b := 8) (by omega) (by decide)) (st_xo ok (by omega) hx (br_c (fun h => ?_) (fun h => ?_)))
    · rw [if_pos h, Int32.or_zero] at hp'
      exact nm_r (nI_1 i) (ih (i + 1) (by omega) a hp')
    · rw [if_neg h] at hp'
      exact nm_e (nm_r (nI_1 i) (ih (i + 1) (by omega) _ hp'))
theorem st_xu (ok : st_Ok n p m) {x : Int32} (hx : st_PV n x) {post : Int32 → Prop} (hp : post (st_un p m x)) : wpX_selectorsOf post (nI n, p, m, t, f) x :=
  ⟨9, st_xun ok hx post 8 0 rfl 0 hp⟩
theorem st_yun {x : Int32} {g : Nat → Int32} (hg : ∀ s, s < 8 → ∀ post : Int32 → Prop, post (g s) → wpY_owner post (nI n, p, m, ma, al, le) x (nI s)) (post : Int32 → Prop) : ∀ d i : Nat, i + d = 8 → ∀ a : Int32, post (st_or (fun s => if g s < 0 then 0 else st_bit s) d i a) → wY_understands_4 post x (nI n) p m ma al le (d + 1) a (nI i) := by
  intro d
  induction d with
  | zero =>
    intro i hi a hp
    obtain rfl : i = 8 := by omega
    exact br_t (by decide) hp
  | succ d ih =>
    intro i hi a hp
    have hp' : post (st_or (fun s => if g s < 0 then 0 else st_bit s) d (i + 1) (a ||| (if g i < 0 then 0 else st_bit i))) := hp
    refine br_f (nI_ge (b := 8) (by omega) (by decide)) (hg i (by omega) _ (br_c (fun h => ?_) (fun h => ?_)))
    · rw [if_pos h] at hp'
      exact nm_e (nm_r (nI_1 i) (ih (i + 1) (by omega) _ hp'))
    · rw [if_neg h] at hp'
      exact nm_e (nm_r (nI_1 i) (ih (i + 1) (by omega) _ hp'))
theorem st_yu (ok : st_Ok n p m) {j : Nat} (hj : j < n) {post : Int32 → Prop} (hp : post (st_un p m (nI j))) : wpY_understands post (nI n, p, m, ma, al, le) (nI j) := by
  refine ⟨9, st_yun (g := fun s => st_ow p m s 10 (nI j)) (fun s hs post hp => st_yo ok hs hj hp) post 8 0 rfl 0 ?_⟩
  have e : st_or (fun s => if st_ow p m s 10 (nI j) < 0 then 0 else st_bit s) 8 0 0 = st_un p m (nI j) := by
    refine st_or_cg 8 0 0 (fun s _ _ => ?_)
    have h := st_pl ok.1 (st_ow_pv ok s 10 (nI j) (Or.inr ⟨j, hj, rfl⟩))
    by_cases h1 : st_ow p m s 10 (nI j) = -1
    · rw [if_pos (h.mpr h1), if_pos h1]
    · rw [if_neg (fun z => h1 (h.mp z)), if_neg h1]
  rw [e]
  exact hp
theorem st_yu_o {x : Int32} (hx : x < 0 ∨ nI n ≤ x) {post : Int32 → Prop} (hp : post 0) : wpY_understands post (nI n, p, m, ma, al, le) x :=
  ⟨9, st_yun (g := fun _ => -1) (fun s hs post hp => st_yo_c hx _ hp) post 8 0 rfl 0 hp⟩
/-! ===== what is understood beside a selector ===== -/
theorem st_xwi (ok : st_Ok n p m) (s : Nat) (post : Int32 → Prop) : ∀ d i : Nat, i + d = n → ∀ a : Int32, post (st_or (fun c => if st_g (st_un p m (nI c)) s = 0 then 0 else st_un p m (nI c)) d i a) → wX_selectorsBeside_4 post (nI s) (nI n) p m t f (d + 1) a (nI i) := by
  have hn := ok.1
  intro d
  induction d with
  | zero =>
    intro i hi a hp
    exact br_t (nI_le (by omega) (by omega)) hp
  | succ d ih =>
    intro i hi a hp
    have hp' : post (st_or (fun c => if st_g (st_un p m (nI c)) s = 0 then 0 else st_un p m (nI c)) d (i + 1) (a ||| (if st_g (st_un p m (nI i)) s = 0 then 0 else st_un p m (nI i)))) := hp
    refine br_f (nI_ge (by omega) (by omega)) (st_xu ok (Or.inr ⟨i, by omega, rfl⟩) (br_c (fun h => ?_) (fun h => ?_)))
    · have h' : st_g (st_un p m (nI i)) s = 0 := h
      rw [if_pos h', Int32.or_zero] at hp'
      exact nm_r (nI_1 i) (ih (i + 1) (by omega) a hp')
    · have h' : ¬ st_g (st_un p m (nI i)) s = 0 := h
      rw [if_neg h'] at hp'
      exact nm_e (nm_r (nI_1 i) (ih (i + 1) (by omega) _ hp'))
theorem st_xw (ok : st_Ok n p m) (s : Nat) {post : Int32 → Prop} (hp : post (st_wi n p m s)) : wpX_selectorsBeside post (nI n, p, m, t, f) (nI s) :=
  ⟨n + 1, st_xwi ok s post n 0 (Nat.zero_add n) 0 hp⟩
theorem st_ywi (ok : st_Ok n p m) (s : Nat) (post : Int32 → Prop) : ∀ d i : Nat, i + d = n → ∀ a : Int32, post (st_or (fun c => if st_g (st_un p m (nI c)) s = 0 then 0 else st_un p m (nI c)) d i a) → wY_with_4 post (nI s) (nI n) p m ma al le (d + 1) a (nI i) := by
  have hn := ok.1
  intro d
  induction d with
  | zero =>
    intro i hi a hp
    exact br_t (nI_le (by omega) (by omega)) hp
  | succ d ih =>
    intro i hi a hp
    have hp' : post (st_or (fun c => if st_g (st_un p m (nI c)) s = 0 then 0 else st_un p m (nI c)) d (i + 1) (a ||| (if st_g (st_un p m (nI i)) s = 0 then 0 else st_un p m (nI i)))) := hp
    refine br_f (nI_ge (by omega) (by omega)) (st_yu ok (by omega) (br_c (fun h => ?_) (fun h => ?_)))
    · have h' : st_g (st_un p m (nI i)) s = 1 := h
      rw [if_neg ((st_g1 _ _).mp h')] at hp'
      exact nm_e (nm_r (nI_1 i) (ih (i + 1) (by omega) _ hp'))
    · have h' : st_g (st_un p m (nI i)) s = 0 := Classical.byContradiction (fun z => h ((st_g1 _ _).mpr z))
      rw [if_pos h', Int32.or_zero] at hp'
      exact nm_r (nI_1 i) (ih (i + 1) (by omega) a hp')
theorem st_yw (ok : st_Ok n p m) (s : Nat) {post : Int32 → Prop} (hp : post (st_wi n p m s)) : wpY_with post (nI n, p, m, ma, al, le) (nI s) :=
  ⟨n + 1, st_ywi ok s post n 0 (Nat.zero_add n) 0 hp⟩
/-! ===== all that is understood ===== -/
theorem st_xus (ok : st_Ok n p m) (post : Int32 → Prop) : ∀ d i : Nat, i + d = n → ∀ a : Int32, post (st_or (fun c => st_un p m (nI c)) d i a) → wX_selectorsOfAll_4 post (nI n) p m t f (d + 1) a (nI i) := by
  have hn := ok.1
  intro d
  induction d with
  | zero =>
    intro i hi a hp
    exact br_t (nI_le (by omega) (by omega)) hp
  | succ d ih =>
    intro i hi a hp
    exact br_f (nI_ge (by omega) (by omega)) (st_xu ok (Or.inr ⟨i, by omega, rfl⟩) (nm_e (nm_r (nI_1 i) (ih (i + 1) (by omega) _ hp))))
theorem st_xa (ok : st_Ok n p m) {post : Int32 → Prop} (hp : post (st_us n p m)) : wpX_selectorsOfAll post (nI n, p, m, t, f) :=
  ⟨n + 1, st_xus ok post n 0 (Nat.zero_add n) 0 hp⟩
/-! ===== heirs ===== -/
theorem st_xhe (ok : st_Ok n p m) {s : Nat} (hs : s < 8) (c : Int32) (post : Int32 → Prop) : ∀ d i : Nat, i + d = n → ∀ a : Int32, post (st_or (fun k => if st_ow p m s 10 (nI k) = c then st_bit k else 0) d i a) → wX_heirs_16 post c (nI s) (nI n) p m t f (d + 1) a (nI i) := by
  have hn := ok.1
  intro d
  induction d with
  | zero =>
    intro i hi a hp
    exact br_t (nI_le (by omega) (by omega)) hp
  | succ d ih =>
    intro i hi a hp
    have hp' : post (st_or (fun k => if st_ow p m s 10 (nI k) = c then st_bit k else 0) d (i + 1) (a ||| (if st_ow p m s 10 (nI i) = c then st_bit i else 0))) := hp
    refine br_f (nI_ge (by omega) (by omega)) (st_xo ok hs (Or.inr ⟨i, by omega, rfl⟩) (br_c (fun h => ?_) (fun h => ?_)))
    · rw [if_pos h] at hp'
      exact nm_e (nm_r (nI_1 i) (ih (i + 1) (by omega) _ hp'))
    · rw [if_neg h, Int32.or_zero] at hp'
      exact nm_r (nI_1 i) (ih (i + 1) (by omega) a hp')
theorem st_yhe (hn : n ≤ 10) {c : Nat} (hc : c < n) {y : Int32} {g : Nat → Int32} (hg : ∀ k, k < n → ∀ post : Int32 → Prop, post (g k) → wpY_owner post (nI n, p, m, ma, al, le) (nI k) y) (post : Int32 → Prop) : ∀ d i : Nat, i + d = n → ∀ a : Int32, post (st_or (fun k => if g k = nI c then st_bit k else 0) d i a) → wY_heirs_5 post (nI c) y (nI n) p m ma al le (d + 1) a (nI i) := by
  intro d
  induction d with
  | zero =>
    intro i hi a hp
    exact br_t (nI_le (by omega) (by omega)) hp
  | succ d ih =>
    intro i hi a hp
    have hp' : post (st_or (fun k => if g k = nI c then st_bit k else 0) d (i + 1) (a ||| (if g i = nI c then st_bit i else 0))) := hp
    refine br_f (nI_ge (by omega) (by omega)) (st_yc_i hc hn (br_f (by decide) (hg i (by omega) _ (br_c (fun h => ?_) (fun h => ?_)))))
    · rw [if_pos h] at hp'
      exact nm_e (nm_r (nI_1 i) (ih (i + 1) (by omega) _ hp'))
    · rw [if_neg h] at hp'
      exact nm_e (nm_r (nI_1 i) (ih (i + 1) (by omega) _ hp'))
end
