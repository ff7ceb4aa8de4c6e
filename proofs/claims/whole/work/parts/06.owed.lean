/-! ===== classes, parent ===== -/
theorem i_vc_classes {k : Nat} {u : SX} {v : SY} (I : i_Rel k u v) (hk : k + 4 ≤ 2048) : wpX_classes (fun r => wpY_classes (fun r' => r' = r ∧ i_Rel (k + 4) u v) v) u := by
  obtain ⟨n, p, m, t, f, ma, al, le, rfl, rfl, ok⟩ := I
  exact ⟨rfl, st_R ok⟩
theorem i_vc_parent {k : Nat} {u : SX} {v : SY} (I : i_Rel k u v) (hk : k + 4 ≤ 2048) (v1 : Int32) : wpX_parent (fun r => wpY_parent (fun r' => r' = r ∧ i_Rel (k + 4) u v) v v1) u v1 := by
  obtain ⟨n, p, m, t, f, ma, al, le, rfl, rfl, ok⟩ := I
  have hn := ok.1
  unfold wpX_parent
  rcases st_cl n hn v1 with hx | ⟨j, hj, rfl⟩
  · refine st_xc_o hx (br_t rfl ?_)
    unfold wpY_parent
    exact st_yc_o hx (br_t rfl ⟨rfl, st_R ok⟩)
  · have hj10 : j < 10 := by omega
    refine st_xc_i hj hn (br_f (by decide) ⟨vp_in_nI hj10 (by decide), ?_⟩)
    unfold wpY_parent
    exact st_yc_i hj hn (br_f (by decide) ⟨vp_in_nI hj10 (by decide), rfl, st_R ok⟩)
/-! ===== send, sendSuper, owner ===== -/
def st_me (p m : Nat → Int32) (s : Nat) (x : Int32) : Int32 := if st_ow p m s 10 x = -1 then 0 else m ((st_ow p m s 10 x).toNatClampNeg * 8 + s)
section
variable {n : Nat} {p m t f ma al le : Nat → Int32}
theorem st_me_n (p m : Nat → Int32) (s : Nat) : st_me p m s (-1) = 0 := by
  unfold st_me; rw [st_ow_n]; rfl
theorem st_xme (ok : st_Ok n p m) {s : Nat} (hs : s < 8) {post : Int32 → Prop} {x : Int32} (hx : st_PV n x) (hp : post (st_me p m s x)) : wpX_methodFrom post (nI n, p, m, t, f) x (nI s) := by
  unfold wpX_methodFrom
  refine st_xo ok hs hx ?_
  have hr := st_ow_pv ok s 10 x hx
  unfold st_me at hp
  revert hp hr
  generalize st_ow p m s 10 x = r
  intro hp hr
  rcases hr with rfl | ⟨j, hj, rfl⟩
  · exact br_t rfl hp
  · have hj10 : j < 10 := Nat.lt_of_lt_of_le hj ok.1
    rw [if_neg (st_nn hj10), nI_clamp (by omega)] at hp
    refine br_f (st_nn hj10) ⟨st_v1 hj10 hs, ?_⟩
    rw [st_i1 hj10 hs]
    exact hp
theorem st_yse (ok : st_Ok n p m) {s : Nat} (hs : s < 8) {post : Int32 → Prop} {i : Nat} (hi : i < n) (hp : post (st_me p m s (nI i))) : wpY_send post (nI n, p, m, ma, al, le) (nI i) (nI s) := by
  unfold wpY_send
  refine st_yo ok hs hi ?_
  have hr := st_ow_pv ok s 10 (nI i) (Or.inr ⟨i, hi, rfl⟩)
  unfold st_me at hp
  revert hp hr
  generalize st_ow p m s 10 (nI i) = r
  intro hp hr
  rcases hr with rfl | ⟨j, hj, rfl⟩
  · exact br_f (by decide) hp
  · have hj10 : j < 10 := Nat.lt_of_lt_of_le hj ok.1
    rw [if_neg (st_nn hj10), nI_clamp (by omega)] at hp
    refine br_t (nI_pos' (by omega)) ⟨st_v2 hj10 hs, ?_⟩
    rw [st_i2 hj10 hs]
    exact hp
theorem st_yse_c {post : Int32 → Prop} {x : Int32} (hx : x < 0 ∨ nI n ≤ x) (y : Int32) (hp : post 0) : wpY_send post (nI n, p, m, ma, al, le) x y := by
  unfold wpY_send
  exact st_yo_c hx y (br_f (by decide) hp)
theorem st_yse_s (hn : n ≤ 10) {post : Int32 → Prop} {j : Nat} (hj : j < n) {y : Int32} (hy : y < 0 ∨ nI 8 ≤ y) (hp : post 0) : wpY_send post (nI n, p, m, ma, al, le) (nI j) y := by
  unfold wpY_send
  exact st_yo_s hn hj hy (br_f (by decide) hp)
theorem st_se (y : Int32) : (y < 0 ∨ nI 8 ≤ y) ∨ ∃ s, s < 8 ∧ y = nI s := by
  rcases pk_ix y (n := 8) (by decide) with h | h | h
  · exact Or.inl (Or.inl h)
  · exact Or.inl (Or.inr h)
  · exact Or.inr h
end
theorem i_vc_send {k : Nat} {u : SX} {v : SY} (I : i_Rel k u v) (hk : k + 4 ≤ 2048) (v1 : Int32) (v2 : Int32) : wpX_send (fun r => wpY_send (fun r' => r' = r ∧ i_Rel (k + 4) u v) v v1 v2) u v1 v2 := by
  obtain ⟨n, p, m, t, f, ma, al, le, rfl, rfl, ok⟩ := I
  have hn := ok.1
  have J : ∀ {k : Nat}, i_Rel k (nI n, p, m, t, f) (nI n, p, m, ma, al, le) := st_R ok
  unfold wpX_send
  rcases st_cl n hn v1 with hx | ⟨j, hj, rfl⟩
  · exact st_xc_o hx (br_t rfl (st_yse_c hx v2 ⟨rfl, J⟩))
  · refine st_xc_i hj hn (br_f (by decide) ?_)
    rcases st_se v2 with hy | ⟨s, hs, rfl⟩
    · exact st_xs_o hy (br_t rfl (st_yse_s hn hj hy ⟨rfl, J⟩))
    · exact st_xs_i hs (br_f (by decide) (st_xme ok hs (Or.inr ⟨j, hj, rfl⟩) (st_yse ok hs hj ⟨rfl, J⟩)))
theorem i_vc_sendSuper {k : Nat} {u : SX} {v : SY} (I : i_Rel k u v) (hk : k + 4 ≤ 2048) (v1 : Int32) (v2 : Int32) : wpX_sendSuper (fun r => wpY_sendSuper (fun r' => r' = r ∧ i_Rel (k + 4) u v) v v1 v2) u v1 v2 := by
  obtain ⟨n, p, m, t, f, ma, al, le, rfl, rfl, ok⟩ := I
  have hn := ok.1
  have J : ∀ {k : Nat}, i_Rel k (nI n, p, m, t, f) (nI n, p, m, ma, al, le) := st_R ok
  unfold wpX_sendSuper
  rcases st_cl n hn v1 with hx | ⟨j, hj, rfl⟩
  · refine st_xc_o hx (br_t rfl ?_)
    unfold wpY_sendSuper wpY_parent
    exact st_yc_o hx (br_t rfl (st_yse_c (Or.inl st_m1) v2 ⟨rfl, J⟩))
  · have hj10 : j < 10 := by omega
    have ej : (nI j).toNatClampNeg = j := nI_clamp (by omega)
    refine st_xc_i hj hn (br_f (by decide) ?_)
    rcases st_se v2 with hy | ⟨s, hs, rfl⟩
    · refine st_xs_o hy (br_t rfl ?_)
      unfold wpY_sendSuper wpY_parent
      refine st_yc_i hj hn (br_f (by decide) ⟨vp_in_nI hj10 (by decide), ?_⟩)
      rw [ej]
      rcases ok.2.1 j hj with h | ⟨i, hi, h⟩
      · rw [h]; exact st_yse_c (Or.inl st_m1) v2 ⟨rfl, J⟩
      · rw [h]; exact st_yse_s hn hi hy ⟨rfl, J⟩
    · refine st_xs_i hs (br_f (by decide) ⟨vp_in_nI hj10 (by decide), ?_⟩)
      rw [ej]
      refine st_xme ok hs (ok.2.1 j hj) ?_
      unfold wpY_sendSuper wpY_parent
      refine st_yc_i hj hn (br_f (by decide) ⟨vp_in_nI hj10 (by decide), ?_⟩)
      rw [ej]
      rcases ok.2.1 j hj with h | ⟨i, hi, h⟩
      · rw [h, st_me_n]; exact st_yse_c (Or.inl st_m1) _ ⟨rfl, J⟩
      · rw [h]; exact st_yse ok hs hi ⟨rfl, J⟩
theorem i_vc_owner {k : Nat} {u : SX} {v : SY} (I : i_Rel k u v) (hk : k + 4 ≤ 2048) (v1 : Int32) (v2 : Int32) : wpX_owner (fun r => wpY_owner (fun r' => r' = r ∧ i_Rel (k + 4) u v) v v1 v2) u v1 v2 := by
  obtain ⟨n, p, m, t, f, ma, al, le, rfl, rfl, ok⟩ := I
  have hn := ok.1
  have J : ∀ {k : Nat}, i_Rel k (nI n, p, m, t, f) (nI n, p, m, ma, al, le) := st_R ok
  unfold wpX_owner
  rcases st_cl n hn v1 with hx | ⟨j, hj, rfl⟩
  · exact st_xc_o hx (br_t rfl (st_yo_c hx v2 ⟨rfl, J⟩))
  · refine st_xc_i hj hn (br_f (by decide) ?_)
    rcases st_se v2 with hy | ⟨s, hs, rfl⟩
    · exact st_xs_o hy (br_t rfl (st_yo_s hn hj hy ⟨rfl, J⟩))
    · exact st_xs_i hs (br_f (by decide) (st_xo ok hs (Or.inr ⟨j, hj, rfl⟩) (st_yo ok hs hj ⟨rfl, J⟩)))
/-! ===== understands, heirs, apart ===== -/
theorem i_vc_understands {k : Nat} {u : SX} {v : SY} (I : i_Rel k u v) (hk : k + 4 ≤ 2048) (v1 : Int32) : wpX_understands (fun r => wpY_understands (fun r' => r' = r ∧ i_Rel (k + 4) u v) v v1) u v1 := by
  obtain ⟨n, p, m, t, f, ma, al, le, rfl, rfl, ok⟩ := I
  have hn := ok.1
  unfold wpX_understands
  rcases st_cl n hn v1 with hx | ⟨j, hj, rfl⟩
  · exact st_xc_o hx (br_t rfl (st_yu_o hx ⟨rfl, st_R ok⟩))
  · exact st_xc_i hj hn (br_f (by decide) (st_xu ok (Or.inr ⟨j, hj, rfl⟩) (st_yu ok hj ⟨rfl, st_R ok⟩)))
theorem i_vc_heirs {k : Nat} {u : SX} {v : SY} (I : i_Rel k u v) (hk : k + 4 ≤ 2048) (v1 : Int32) (v2 : Int32) : wpX_heirs (fun r => wpY_heirs (fun r' => r' = r ∧ i_Rel (k + 4) u v) v v1 v2) u v1 v2 := by
  obtain ⟨n, p, m, t, f, ma, al, le, rfl, rfl, ok⟩ := I
  have hn := ok.1
  have J : ∀ {k : Nat}, i_Rel k (nI n, p, m, t, f) (nI n, p, m, ma, al, le) := st_R ok
  unfold wpX_heirs
  refine st_xd hn v1 v2 (fun hx => br_t rfl ?_) (fun j hj ej hy => br_t rfl ?_) (fun j s hj hs ej es h => br_t rfl ?_) (fun j s hj hs ej es h => br_f (by decide) ?_)
  · refine ⟨1, ?_⟩
    rcases Nat.eq_zero_or_pos n with h0 | h0
    · exact br_t (by rw [h0]; decide) ⟨rfl, J⟩
    · exact br_f (nI_nle h0 (by omega)) (st_yc_o hx (br_t rfl ⟨rfl, J⟩))
  · subst ej
    refine ⟨n + 1, st_yhe hn hj (g := fun _ => -1) (fun i hi post hp => st_yo_s hn hi hy hp) _ n 0 (Nat.zero_add n) 0 ?_⟩
    rw [st_or_0 n 0 0 (fun i _ _ => if_neg (fun z => st_nn (j := j) (by omega) z.symm))]
    exact ⟨rfl, J⟩
  · subst ej es
    refine ⟨n + 1, st_yhe hn hj (g := fun i => st_ow p m s 10 (nI i)) (fun i hi post hp => st_yo ok hs hi hp) _ n 0 (Nat.zero_add n) 0 ?_⟩
    rw [st_or_0 n 0 0 (fun i _ hi => if_neg (fun z => st_ow_df ok s (c := j) (by omega) 10 (nI i) (Or.inr ⟨i, by omega, rfl⟩) z h))]
    exact ⟨rfl, J⟩
  · subst ej es
    refine ⟨n + 1, st_xhe ok hs (nI j) _ n 0 (Nat.zero_add n) 0 ?_⟩
    exact ⟨n + 1, st_yhe hn hj (g := fun i => st_ow p m s 10 (nI i)) (fun i hi post hp => st_yo ok hs hi hp) _ n 0 (Nat.zero_add n) 0 ⟨rfl, J⟩⟩
theorem st_ap (x y : Int32) : (255 &&& (x ^^^ (-1))) &&& (y ^^^ (-1)) = 255 &&& ((x ||| y) ^^^ (-1)) := by
  apply b_ext
  intro k hk
  rw [b_and, b_and, b_and, b_xor, b_xor, b_xor, b_or, b_m1 k hk]
  cases bt 255 k <;> cases bt x k <;> cases bt y k <;> rfl
theorem i_vc_apart {k : Nat} {u : SX} {v : SY} (I : i_Rel k u v) (hk : k + 4 ≤ 2048) (v1 : Int32) : wpX_apart (fun r => wpY_apart (fun r' => r' = r ∧ i_Rel (k + 4) u v) v v1) u v1 := by
  obtain ⟨n, p, m, t, f, ma, al, le, rfl, rfl, ok⟩ := I
  have J : ∀ {k : Nat}, i_Rel k (nI n, p, m, t, f) (nI n, p, m, ma, al, le) := st_R ok
  unfold wpX_apart
  rcases st_se v1 with hy | ⟨s, hs, rfl⟩
  · refine st_xs_o hy (br_t rfl ?_)
    exact br_c (fun _ => ⟨rfl, J⟩) (fun h0 => br_f (st_n7 (hy.resolve_left h0)) ⟨rfl, J⟩)
  · refine st_xs_i hs (br_f (by decide) (st_xw ok s (nm_e ?_)))
    exact br_f (nI_pos (by omega)) (br_t (st_7 hs) (st_yw ok s ⟨st_ap _ _, J⟩))
/-! ===== crowd, colours ===== -/
theorem i_vc_crowd {k : Nat} {u : SX} {v : SY} (I : i_Rel k u v) (hk : k + 4 ≤ 2048) : wpX_crowd (fun r u' => wpY_crowd (fun r' v' => r' = r ∧ i_Rel (k + 4) u' v') v) u := by
  obtain ⟨n, p, m, t, f, ma, al, le, rfl, rfl, ok⟩ := I
  unfold wpX_crowd
  refine st_xf ok (fun t' ht => ⟨256, st_xmx (nI n) ht _ 255 1 rfl 0 ?_⟩)
  unfold wpY_crowd
  exact st_yf ok (fun ma' hm => ⟨256, st_ymx (nI n) hm _ 255 1 rfl 0 ⟨rfl, st_R ok⟩⟩)
theorem i_vc_colours {k : Nat} {u : SX} {v : SY} (I : i_Rel k u v) (hk : k + 4 ≤ 2048) : wpX_colours (fun r u' => wpY_colours (fun r' v' => r' = r ∧ i_Rel (k + 4) u' v') v) u := by
  obtain ⟨n, p, m, t, f, ma, al, le, rfl, rfl, ok⟩ := I
  obtain ⟨U, hU, eU⟩ := st_us_n n p m
  unfold wpX_colours
  refine st_xf ok (fun t' ht => st_xl (nI n) ht (fun f' f0 hf => st_xa ok ?_))
  rw [eU]
  refine ⟨vp_in_nI hU (by decide), ?_⟩
  rw [nI_clamp (by omega)]
  unfold wpY_colours
  refine st_yf ok (fun ma' hm => ⟨9, st_yus (nI n) hU hm (fun al' l' l0 hl => ⟨?_, st_R ok⟩) 8 0 rfl 0 ((st_us_eq n p m).trans eU)⟩)
  exact st_tab f0 l0 hf hl 256 U hU hU (st_df_self U)
