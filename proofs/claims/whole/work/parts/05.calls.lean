/-! ===== the relation ===== -/
/-- both sides keep the same count, parents and methods -/
def i_Rel (_k : Nat) (u : SX) (v : SY) : Prop := ∃ (n : Nat) (p m t f ma al le : Nat → Int32), u = (nI n, p, m, t, f) ∧ v = (nI n, p, m, ma, al, le) ∧ st_Ok n p m
theorem i_up {k : Nat} {u : SX} {v : SY} (h : i_Rel k u v) : i_Rel (k + 4) u v := h
theorem i_vc0 : wpX_init (fun u => wpY_init (fun v => i_Rel 0 u v)) :=
  ⟨0, fun _ => 0, fun _ => 0, fun _ => 0, fun _ => 0, fun _ => 0, fun _ => 0, fun _ => 0, rfl, rfl, by omega, fun j hj => absurd hj (Nat.not_lt_zero j), fun _ => (by decide : ¬ (0 : Int32) < 0)⟩
section
variable {n : Nat} {p m t f ma al le : Nat → Int32}
theorem st_R {k : Nat} (ok : st_Ok n p m) : i_Rel k (nI n, p, m, t, f) (nI n, p, m, ma, al, le) := ⟨n, p, m, t, f, ma, al, le, rfl, rfl, ok⟩
/-! ===== addClass ===== -/
theorem st_xn_i {x : Int32} {post : Int32 → Prop} (hn : n ≤ 10) (hx : st_PV n x) (h : post 1) : wpX_isClassOrNone post (nI n, p, m, t, f) x := by
  rcases hx with rfl | ⟨j, hj, rfl⟩
  · exact br_t rfl h
  · exact br_f (st_nn (by omega)) (st_xc_i hj hn (br_f (by decide) h))
theorem st_xn_o {x : Int32} {post : Int32 → Prop} (hx : x < 0 ∨ nI n ≤ x) (hx1 : ¬ x = -1) (h : post 0) : wpX_isClassOrNone post (nI n, p, m, t, f) x :=
  br_f hx1 (st_xc_o hx (br_t rfl h))
theorem st_sp (n : Nat) (hn : n ≤ 10) (x : Int32) : st_PV n x ∨ ((x < 0 ∨ nI n ≤ x) ∧ ¬ x = -1) := by
  by_cases h1 : x = -1
  · exact Or.inl (Or.inl h1)
  · rcases pk_ix x (n := n) (by omega) with h | h | h
    · exact Or.inr ⟨Or.inl h, h1⟩
    · exact Or.inr ⟨Or.inr h, h1⟩
    · exact Or.inl (Or.inr h)
theorem st_cl (n : Nat) (hn : n ≤ 10) (x : Int32) : (x < 0 ∨ nI n ≤ x) ∨ ∃ j, j < n ∧ x = nI j := by
  rcases pk_ix x (n := n) (by omega) with h | h | h
  · exact Or.inl (Or.inl h)
  · exact Or.inl (Or.inr h)
  · exact Or.inr h
theorem st_pvm {x : Int32} (h : st_PV n x) : st_PV (n + 1) x := by
  rcases h with h | ⟨j, hj, h⟩
  · exact Or.inl h
  · exact Or.inr ⟨j, by omega, h⟩
theorem st_okA (ok : st_Ok n p m) (hn : n < 10) {x : Int32} (hx : st_PV n x) : st_Ok (n + 1) (upd p n x) m := by
  refine ⟨by omega, fun j hj => ?_, ok.2.2⟩
  by_cases h : j = n
  · rw [h, pk_us]; exact st_pvm hx
  · rw [pk_un h]; exact st_pvm (ok.2.1 j (by omega))
theorem st_yad {x : Int32} {post : Int32 → SY → Prop} (hn : n ≤ 10) (h1 : n < 10 → post (nI n) (nI (n + 1), upd p n x, m, ma, al, le)) (h2 : n = 10 → post (-2) (nI n, p, m, ma, al, le)) : wY_addClass_15 post x (nI n) p m ma al le := by
  have e : (nI n).toNatClampNeg = n := nI_clamp (by omega)
  by_cases h : n < 10
  · refine br_t (nI_lt (b := 10) h (by decide)) ⟨vp_in_nI h (by decide), nm_r (congrArg (fun k => upd p k x) e) (nm_r (nI_1 n) ?_)⟩
    rw [nI_pred]
    exact h1 h
  · exact br_f (nI_nlt (b := 10) (by omega) (by omega)) (h2 (by omega))
theorem st_ya {x : Int32} {post : Int32 → SY → Prop} (hn : n ≤ 10) (hx : st_PV n x) (h1 : n < 10 → post (nI n) (nI (n + 1), upd p n x, m, ma, al, le)) (h2 : n = 10 → post (-2) (nI n, p, m, ma, al, le)) : wpY_addClass post (nI n, p, m, ma, al, le) x := by
  rcases hx with rfl | ⟨j, hj, rfl⟩
  · exact br_t rfl (st_yad hn h1 h2)
  · exact br_f (st_nn (by omega)) (st_yc_i hj hn (br_f (by decide) (st_yad hn h1 h2)))
end
theorem i_vc_addClass {k : Nat} {u : SX} {v : SY} (I : i_Rel k u v) (hk : k + 4 ≤ 2048) (v1 : Int32) : wpX_addClass (fun r u' => wpY_addClass (fun r' v' => r' = r ∧ i_Rel (k + 4) u' v') v v1) u v1 := by
  obtain ⟨n, p, m, t, f, ma, al, le, rfl, rfl, ok⟩ := I
  have hn := ok.1
  have e : (nI n).toNatClampNeg = n := nI_clamp (by omega)
  unfold wpX_addClass
  rcases st_sp n hn v1 with hx | ⟨hx, hx1⟩
  · refine st_xn_i hn hx (br_f (by decide) ?_)
    by_cases h : n < 10
    · exact br_t (nI_lt (b := 10) h (by decide)) ⟨vp_in_nI h (by decide), nm_r (congrArg (fun k => upd p k v1) e) (nm_r (nI_1 n) (st_ya hn hx (fun _ => ⟨rfl, st_R (st_okA ok h hx)⟩) (fun z => by omega)))⟩
    · exact br_f (nI_nlt (b := 10) (by omega) (by omega)) (st_ya hn hx (fun z => absurd z h) (fun _ => ⟨rfl, st_R ok⟩))
  · refine st_xn_o hx hx1 (br_t rfl ?_)
    exact br_f hx1 (st_yc_o hx (br_t rfl ⟨rfl, st_R ok⟩))
/-! ===== define, drop ===== -/
section
variable {n : Nat} {p m t f ma al le : Nat → Int32}
theorem st_n7i {s : Nat} (hs : s < 8) : ¬ 7 < nI s := nI_nlt (a := 7) (by omega) (by decide)
theorem st_n7o {y : Int32} (h : nI 8 ≤ y) : 7 < y := Int32.lt_of_lt_of_le (by decide) h
theorem st_okM (ok : st_Ok n p m) {i : Nat} {x : Int32} (hx : ¬ x < 0) : st_Ok n p (upd m i x) := by
  refine ⟨ok.1, ok.2.1, fun j => ?_⟩
  by_cases h : j = i
  · rw [h, pk_us]; exact hx
  · rw [pk_un h]; exact ok.2.2 j
theorem st_i1 {j s : Nat} (hj : j < 10) (hs : s < 8) : (nI j * 8 + nI s).toNatClampNeg = j * 8 + s := by
  rw [st_ix]; exact nI_clamp (by omega)
theorem st_i2 {j s : Nat} (hj : j < 10) (hs : s < 8) : (8 * nI j + nI s).toNatClampNeg = j * 8 + s := by
  rw [st_ix']; exact nI_clamp (by omega)
theorem st_v1 {j s : Nat} (hj : j < 10) (hs : s < 8) : vp_in (nI j * 8 + nI s) 80 := pk_in (j * 8 + s) 80 (by omega) (st_ix j s)
theorem st_v2 {j s : Nat} (hj : j < 10) (hs : s < 8) : vp_in (8 * nI j + nI s) 80 := pk_in (j * 8 + s) 80 (by omega) (st_ix' j s)
theorem st_p1 {x : Int32} (h : ¬ x < 1) : ¬ x < 0 := fun z => h (Int32.lt_of_lt_of_le z (by decide))
end
theorem i_vc_define {k : Nat} {u : SX} {v : SY} (I : i_Rel k u v) (hk : k + 4 ≤ 2048) (v1 : Int32) (v2 : Int32) (v3 : Int32) : wpX_define (fun r u' => wpY_define (fun r' v' => r' = r ∧ i_Rel (k + 4) u' v') v v1 v2 v3) u v1 v2 v3 := by
  obtain ⟨n, p, m, t, f, ma, al, le, rfl, rfl, ok⟩ := I
  have hn := ok.1
  have J : ∀ {k : Nat}, i_Rel k (nI n, p, m, t, f) (nI n, p, m, ma, al, le) := st_R ok
  unfold wpX_define
  rcases st_cl n hn v1 with hx | ⟨j, hj, rfl⟩
  · refine st_xc_o hx (br_t rfl ?_)
    unfold wpY_define
    exact st_yc_o hx (br_t rfl ⟨rfl, J⟩)
  · refine st_xc_i hj hn (br_f (by decide) ?_)
    rcases pk_ix v2 (n := 8) (by decide) with hy | hy | ⟨s, hs, rfl⟩
    · refine st_xs_o (Or.inl hy) (br_t rfl ?_)
      unfold wpY_define
      exact st_yc_i hj hn (br_f (by decide) (br_t hy ⟨rfl, J⟩))
    · refine st_xs_o (Or.inr hy) (br_t rfl ?_)
      unfold wpY_define
      refine st_yc_i hj hn (br_f (by decide) (br_c (fun _ => ⟨rfl, J⟩) (fun _ => br_t (st_n7o hy) ⟨rfl, J⟩)))
    · have hj10 : j < 10 := by omega
      refine st_xs_i hs (br_f (by decide) ?_)
      by_cases h1 : v3 < 1
      · refine br_t h1 ?_
        unfold wpY_define
        exact st_yc_i hj hn (br_f (by decide) (br_f (nI_pos (by omega)) (br_f (st_n7i hs) (br_t h1 ⟨rfl, J⟩))))
      · refine br_f h1 ?_
        by_cases h2 : v3 ≤ 1000
        · refine br_t h2 ⟨st_v1 hj10 hs, nm_r (congrArg (fun k => upd m k v3) (st_i1 hj10 hs)) ?_⟩
          unfold wpY_define
          exact st_yc_i hj hn (br_f (by decide) (br_f (nI_pos (by omega)) (br_f (st_n7i hs) (br_f h1 (br_t h2 ⟨st_v2 hj10 hs, nm_r (congrArg (fun k => upd m k v3) (st_i2 hj10 hs)) ⟨rfl, st_R (st_okM ok (st_p1 h1))⟩⟩)))))
        · refine br_f h2 ?_
          unfold wpY_define
          exact st_yc_i hj hn (br_f (by decide) (br_f (nI_pos (by omega)) (br_f (st_n7i hs) (br_f h1 (br_f h2 ⟨rfl, J⟩)))))
section
variable {n : Nat} {p m t f ma al le : Nat → Int32}
/-- what a call of 'defines' comes to -/
theorem st_xd (hn : n ≤ 10) (x y : Int32) {post : Int32 → Prop} (h0 : (x < 0 ∨ nI n ≤ x) → post 0) (h1 : ∀ j, j < n → x = nI j → (y < 0 ∨ nI 8 ≤ y) → post 0) (h2 : ∀ j s, j < n → s < 8 → x = nI j → y = nI s → m (j * 8 + s) = 0 → post 0) (h3 : ∀ j s, j < n → s < 8 → x = nI j → y = nI s → ¬ m (j * 8 + s) = 0 → post 1) : wpX_defines post (nI n, p, m, t, f) x y := by
  unfold wpX_defines
  rcases st_cl n hn x with hx | ⟨j, hj, rfl⟩
  · exact st_xc_o hx (br_t rfl (h0 hx))
  · refine st_xc_i hj hn (br_f (by decide) ?_)
    rcases pk_ix y (n := 8) (by decide) with hy | hy | ⟨s, hs, rfl⟩
    · exact st_xs_o (Or.inl hy) (br_t rfl (h1 j hj rfl (Or.inl hy)))
    · exact st_xs_o (Or.inr hy) (br_t rfl (h1 j hj rfl (Or.inr hy)))
    · have hj10 : j < 10 := by omega
      refine st_xs_i hs (br_f (by decide) ⟨st_v1 hj10 hs, ?_⟩)
      by_cases h : m (j * 8 + s) = 0
      · exact br_t (by rw [st_i1 hj10 hs]; exact h) (h2 j s hj hs rfl rfl h)
      · exact br_f (by rw [st_i1 hj10 hs]; exact h) (h3 j s hj hs rfl rfl h)
end
theorem i_vc_drop {k : Nat} {u : SX} {v : SY} (I : i_Rel k u v) (hk : k + 4 ≤ 2048) (v1 : Int32) (v2 : Int32) : wpX_drop (fun r u' => wpY_drop (fun r' v' => r' = r ∧ i_Rel (k + 4) u' v') v v1 v2) u v1 v2 := by
  obtain ⟨n, p, m, t, f, ma, al, le, rfl, rfl, ok⟩ := I
  have hn := ok.1
  have J : ∀ {k : Nat}, i_Rel k (nI n, p, m, t, f) (nI n, p, m, ma, al, le) := st_R ok
  unfold wpX_drop
  refine st_xd hn v1 v2 (fun hx => br_t rfl ?_) (fun j hj ej hy => br_t rfl ?_) (fun j s hj hs ej es h => br_t rfl ?_) (fun j s hj hs ej es h => br_f (by decide) ?_)
  · unfold wpY_drop
    exact st_yc_o hx (br_t rfl ⟨rfl, J⟩)
  · subst ej
    unfold wpY_drop
    refine st_yc_i hj hn (br_f (by decide) (br_c (fun _ => ⟨rfl, J⟩) (fun h0 => br_t (st_n7o (hy.resolve_left h0)) ⟨rfl, J⟩)))
  · subst ej es
    have hj10 : j < 10 := by omega
    unfold wpY_drop
    exact st_yc_i hj hn (br_f (by decide) (br_f (nI_pos (by omega)) (br_f (st_n7i hs) ⟨st_v2 hj10 hs, br_t (by rw [st_i2 hj10 hs]; exact h) ⟨rfl, J⟩⟩)))
  · subst ej es
    have hj10 : j < 10 := by omega
    refine ⟨st_v1 hj10 hs, nm_r (congrArg (fun k => upd m k 0) (st_i1 hj10 hs)) ?_⟩
    unfold wpY_drop
    exact st_yc_i hj hn (br_f (by decide) (br_f (nI_pos (by omega)) (br_f (st_n7i hs) ⟨st_v2 hj10 hs, br_f (by rw [st_i2 hj10 hs]; exact h) ⟨st_v2 hj10 hs, nm_r (congrArg (fun k => upd m k 0) (st_i2 hj10 hs)) ⟨rfl, st_R (st_okM ok (by decide))⟩⟩⟩)))
/-! ===== move ===== -/
/-- whether class c is met on the way up from x, in at most d steps -/
def st_wt (p : Nat → Int32) (c : Nat) : Nat → Int32 → Bool
  | 0, _ => false
  | d + 1, x => if x = -1 then false else if x = nI c then true else st_wt p c d (p x.toNatClampNeg)
section
variable {n : Nat} {p m t f ma al le : Nat → Int32}
theorem st_wt_n (p : Nat → Int32) (c d : Nat) : st_wt p c d (-1) = false := by
  cases d with
  | zero => rfl
  | succ d => exact if_pos rfl
theorem st_wt_t {c j : Nat} (d : Nat) (hj : j < 10) (h : nI j = nI c) : st_wt p c (d + 1) (nI j) = true := by
  show (if nI j = -1 then false else if nI j = nI c then true else st_wt p c d (p (nI j).toNatClampNeg)) = _
  rw [if_neg (st_nn hj), if_pos h]
theorem st_wt_f {c j : Nat} (d : Nat) (hj : j < 10) (h : ¬ nI j = nI c) : st_wt p c (d + 1) (nI j) = st_wt p c d (p j) := by
  have e : (nI j).toNatClampNeg = j := nI_clamp (by omega)
  show (if nI j = -1 then false else if nI j = nI c then true else st_wt p c d (p (nI j).toNatClampNeg)) = _
  rw [if_neg (st_nn hj), if_neg h, e]
theorem st_xwt (ok : st_Ok n p m) (c : Nat) (post : Int32 → Prop) : ∀ d i : Nat, i + d = 10 → ∀ x : Int32, st_PV n x → post (st_b (st_wt p c d x)) → wX_isWithin_5 post (nI c) (nI n) p m t f (d + 1) x (nI i) := by
  intro d
  induction d with
  | zero =>
    intro i hi x hx hp
    obtain rfl : i = 10 := by omega
    exact br_t (by decide) hp
  | succ d ih =>
    intro i hi x hx hp
    refine br_f (nI_ge (b := 10) (by omega) (by decide)) ?_
    rcases hx with rfl | ⟨j, hj, rfl⟩
    · exact br_t rfl hp
    · have hj10 : j < 10 := Nat.lt_of_lt_of_le hj ok.1
      have e3 : (nI j).toNatClampNeg = j := nI_clamp (by omega)
      refine br_f (st_nn hj10) ?_
      by_cases h : nI j = nI c
      · rw [st_wt_t d hj10 h] at hp
        exact br_t h hp
      · rw [st_wt_f d hj10 h] at hp
        exact br_f h ⟨vp_in_nI hj10 (by decide), nm_r (congrArg p e3) (nm_r (nI_1 i) (ih (i + 1) (by omega) _ (ok.2.1 j hj) hp))⟩
theorem st_ywt (ok : st_Ok n p m) {c : Nat} (hc : c < n) (y : Int32) (post : Int32 → SY → Prop) : ∀ d i : Nat, i + d = 10 → ∀ x : Int32, st_PV n x → (st_wt p c d x = true → post 0 (nI n, p, m, ma, al, le)) → (st_wt p c d x = false → post 1 (nI n, upd p c y, m, ma, al, le)) → wY_move_28 post (nI c) y (nI n) p m ma al le (d + 1) x (nI i) := by
  have hc10 : c < 10 := Nat.lt_of_lt_of_le hc ok.1
  have ec : (nI c).toNatClampNeg = c := nI_clamp (by omega)
  intro d
  induction d with
  | zero =>
    intro i hi x hx h1 h0
    obtain rfl : i = 10 := by omega
    exact br_t (by decide) ⟨vp_in_nI hc10 (by decide), nm_r (congrArg (fun k => upd p k y) ec) (h0 rfl)⟩
  | succ d ih =>
    intro i hi x hx h1 h0
    refine br_f (nI_ge (b := 10) (by omega) (by decide)) ?_
    rcases hx with rfl | ⟨j, hj, rfl⟩
    · exact br_t st_m1 ⟨vp_in_nI hc10 (by decide), nm_r (congrArg (fun k => upd p k y) ec) (h0 (st_wt_n p c (d + 1)))⟩
    · have hj10 : j < 10 := Nat.lt_of_lt_of_le hj ok.1
      have e3 : (nI j).toNatClampNeg = j := nI_clamp (by omega)
      refine br_f (nI_pos (by omega)) ?_
      by_cases h : nI j = nI c
      · exact br_t h (h1 (st_wt_t d hj10 h))
      · rw [st_wt_f d hj10 h] at h1 h0
        exact br_f h ⟨vp_in_nI hj10 (by decide), nm_r (congrArg p e3) (nm_r (nI_1 i) (ih (i + 1) (by omega) _ (ok.2.1 j hj) h1 h0))⟩
theorem st_okP (ok : st_Ok n p m) {c : Nat} {x : Int32} (hx : st_PV n x) : st_Ok n (upd p c x) m := by
  refine ⟨ok.1, fun j hj => ?_, ok.2.2⟩
  by_cases h : j = c
  · rw [h, pk_us]; exact hx
  · rw [pk_un h]; exact ok.2.1 j hj
theorem st_ymv (ok : st_Ok n p m) {c : Nat} (hc : c < n) {y : Int32} (hy : st_PV n y) {post : Int32 → SY → Prop} (h1 : st_wt p c 10 y = true → post 0 (nI n, p, m, ma, al, le)) (h0 : st_wt p c 10 y = false → post 1 (nI n, upd p c y, m, ma, al, le)) : wpY_move post (nI n, p, m, ma, al, le) (nI c) y := by
  have hw : wY_move_28 post (nI c) y (nI n) p m ma al le 11 y 0 := st_ywt ok hc y post 10 0 rfl y hy h1 h0
  unfold wpY_move
  refine st_yc_i hc ok.1 (br_f (by decide) ?_)
  rcases hy with rfl | ⟨j, hj, rfl⟩
  · exact br_t rfl ⟨11, hw⟩
  · exact br_f (st_nn (Nat.lt_of_lt_of_le hj ok.1)) (st_yc_i hj ok.1 (br_f (by decide) ⟨11, hw⟩))
end
theorem i_vc_move {k : Nat} {u : SX} {v : SY} (I : i_Rel k u v) (hk : k + 4 ≤ 2048) (v1 : Int32) (v2 : Int32) : wpX_move (fun r u' => wpY_move (fun r' v' => r' = r ∧ i_Rel (k + 4) u' v') v v1 v2) u v1 v2 := by
  obtain ⟨n, p, m, t, f, ma, al, le, rfl, rfl, ok⟩ := I
  have hn := ok.1
  have J : ∀ {k : Nat}, i_Rel k (nI n, p, m, t, f) (nI n, p, m, ma, al, le) := st_R ok
  unfold wpX_move
  rcases st_cl n hn v1 with hx | ⟨c, hc, rfl⟩
  · refine st_xc_o hx (br_t rfl ?_)
    unfold wpY_move
    exact st_yc_o hx (br_t rfl ⟨rfl, J⟩)
  · have hc10 : c < 10 := by omega
    have ec : (nI c).toNatClampNeg = c := nI_clamp (by omega)
    refine st_xc_i hc hn (br_f (by decide) ?_)
    rcases st_sp n hn v2 with hy | ⟨hy, hy1⟩
    · refine st_xn_i hn hy (br_f (by decide) ⟨11, st_xwt ok c _ 10 0 rfl v2 hy ?_⟩)
      cases hw : st_wt p c 10 v2 with
      | true =>
        exact br_f (by decide) (st_ymv ok hc hy (fun _ => ⟨rfl, J⟩) (fun z => by rw [hw] at z; exact absurd z (by decide)))
      | false =>
        exact br_t rfl ⟨vp_in_nI hc10 (by decide), nm_r (congrArg (fun k => upd p k v2) ec) (st_ymv ok hc hy (fun z => by rw [hw] at z; exact absurd z (by decide)) (fun _ => ⟨rfl, st_R (st_okP ok hy)⟩))⟩
    · refine st_xn_o hy hy1 (br_t rfl ?_)
      unfold wpY_move
      exact st_yc_i hc hn (br_f (by decide) (br_f hy1 (st_yc_o hy (br_t rfl ⟨rfl, J⟩))))
