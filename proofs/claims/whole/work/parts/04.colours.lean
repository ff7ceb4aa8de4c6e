/-! ===== the fewest colours of a set: one round over its parts ===== -/
/-- where the rest of set S stands, without its part i -/
def st_df (S i : Nat) : Nat := (nI S &&& (nI i ^^^ (-1))).toNatClampNeg
def st_fw (W f : Nat → Int32) (S : Nat) : Nat → Nat → Int32 → Int32
  | 0, _, b => b
  | d + 1, i, b => st_fw W f S d (i + 1) (if (nI i &&& (nI S ^^^ (-1))) = 0 ∧ st_oc W (nI i) = true ∧ ¬ b ≤ f (st_df S i) + 1 then f (st_df S i) + 1 else b)
theorem st_an (S : Nat) (y : Int32) (hS : S < 256) : ∃ k, k ≤ S ∧ nI S &&& y = nI k := by
  refine ⟨(nI S &&& y).toBitVec.toNat, ?_, ?_⟩
  · rw [Int32.toBitVec_and, BitVec.toNat_and, pk_tn (by omega)]
    exact Nat.and_le_left
  · apply Int32.toBitVec_inj.mp
    apply BitVec.eq_of_toNat_eq
    rw [pk_tn (BitVec.isLt _)]
theorem st_df_e (S i : Nat) (hS : S < 256) : nI S &&& (nI i ^^^ (-1)) = nI (st_df S i) ∧ st_df S i ≤ S := by
  obtain ⟨k, hk, e⟩ := st_an S (nI i ^^^ (-1)) hS
  have e2 : st_df S i = k := by
    unfold st_df
    rw [e]
    exact nI_clamp (by omega)
  rw [e2]
  exact ⟨e, hk⟩
theorem st_df_in (S i : Nat) (hS : S < 256) : vp_in (nI S &&& (nI i ^^^ (-1))) 256 :=
  pk_in (st_df S i) 256 (by have := (st_df_e S i hS).2; omega) (st_df_e S i hS).1
theorem st_sb {x y : Int32} (h : (x &&& (y ^^^ (-1))) = 0) {k : Nat} (hk : k < 32) (hx : bt x k = true) : bt y k = true := by
  have e : bt (x &&& (y ^^^ (-1))) k = false := by rw [h]; exact b_0 k
  rw [b_and, b_xor, b_m1 k hk, hx, Bool.true_and, Bool.xor_true] at e
  cases hy : bt y k with
  | true => rfl
  | false => rw [hy] at e; exact absurd e (by decide)
theorem st_bs {x y : Int32} (h : ∀ k, k < 32 → bt x k = true → bt y k = true) : (x &&& (y ^^^ (-1))) = 0 := by
  apply b_ext
  intro k hk
  rw [b_and, b_xor, b_m1 k hk, b_0]
  cases hx : bt x k with
  | false => rfl
  | true => rw [h k hk hx]; rfl
theorem st_df_lt {S i : Nat} (hS : S < 256) (h1 : 1 ≤ i) (hi : i < 256) (h : (nI i &&& (nI S ^^^ (-1))) = 0) : st_df S i < S := by
  have ⟨e, hl⟩ := st_df_e S i hS
  rcases Nat.lt_or_ge (st_df S i) S with h2 | h2
  · exact h2
  · exfalso
    have e2 : st_df S i = S := by omega
    rw [e2] at e
    have z : nI i = 0 := by
      apply b_ext
      intro k hk
      rw [b_0]
      cases hx : bt (nI i) k with
      | false => rfl
      | true =>
        have hy := st_sb h hk hx
        have e3 : bt (nI S &&& (nI i ^^^ (-1))) k = true := by rw [e]; exact hy
        rw [b_and, b_xor, b_m1 k hk, hx, hy] at e3
        exact absurd e3 (by decide)
    exact nI_ne0 (by omega) (by omega) z
theorem st_df_sb {S i U : Nat} (hS : S < 256) (h : (nI S &&& (nI U ^^^ (-1))) = 0) : (nI (st_df S i) &&& (nI U ^^^ (-1))) = 0 := by
  rw [← (st_df_e S i hS).1]
  apply st_bs
  intro k hk hx
  rw [b_and, Bool.and_eq_true] at hx
  exact st_sb h hk hx.1
theorem st_fw_cg {W f f' : Nat → Int32} {S : Nat} (H : ∀ i, 1 ≤ i → i < 256 → (nI i &&& (nI S ^^^ (-1))) = 0 → f (st_df S i) = f' (st_df S i)) : ∀ (d i : Nat) (b : Int32), 1 ≤ i → i + d ≤ 256 → st_fw W f S d i b = st_fw W f' S d i b := by
  intro d
  induction d with
  | zero => intro i b _ _; rfl
  | succ d ih =>
    intro i b h1 h2
    have e : (if (nI i &&& (nI S ^^^ (-1))) = 0 ∧ st_oc W (nI i) = true ∧ ¬ b ≤ f (st_df S i) + 1 then f (st_df S i) + 1 else b) = (if (nI i &&& (nI S ^^^ (-1))) = 0 ∧ st_oc W (nI i) = true ∧ ¬ b ≤ f' (st_df S i) + 1 then f' (st_df S i) + 1 else b) := by
      by_cases h : (nI i &&& (nI S ^^^ (-1))) = 0
      · rw [H i h1 (by omega) h]
      · rw [if_neg (fun z => h z.1), if_neg (fun z => h z.1)]
    show st_fw W f S d (i + 1) _ = st_fw W f' S d (i + 1) _
    rw [e]
    exact ih (i + 1) _ (by omega) (by omega)
theorem st_fw_lo {W f f' : Nat → Int32} {S : Nat} (hS : S < 256) (h : ∀ j, j < S → f j = f' j) (b : Int32) : st_fw W f S S 1 b = st_fw W f' S S 1 b :=
  st_fw_cg (fun i h1 h2 h3 => h _ (st_df_lt hS h1 h2 h3)) S 1 b (by omega) (by omega)
/-- what both tables come to -/
theorem st_tab {W f l : Nat → Int32} {U : Nat} (f0 : f 0 = 0) (l0 : l 0 = 0) (hf : ∀ S, 1 ≤ S → S < 256 → f S = st_fw W f S S 1 8) (hl : ∀ S, 1 ≤ S → S < 256 → (nI S &&& (nI U ^^^ (-1))) = 0 → l S = st_fw W l S S 1 8) : ∀ B S, S < B → S < 256 → (nI S &&& (nI U ^^^ (-1))) = 0 → l S = f S := by
  intro B
  induction B with
  | zero => intro S h; omega
  | succ B ih =>
    intro S h1 h2 h3
    rcases Nat.eq_zero_or_pos S with rfl | hp
    · rw [f0, l0]
    · rw [hf S hp h2, hl S hp h2 h3]
      refine st_fw_cg (fun i i1 i2 i3 => ?_) S 1 8 (by omega) (by omega)
      have hlt := st_df_lt h2 i1 i2 i3
      exact ih _ (by omega) (by omega) (st_df_sb h2 h3)
theorem st_df_self (U : Nat) : (nI U &&& (nI U ^^^ (-1))) = 0 := st_bs (fun _ _ h => h)
section
variable {n : Nat} {p m t f ma al le : Nat → Int32}
/-! ===== the component's table ===== -/
theorem st_xfw (c : Int32) {W : Nat → Int32} (ht : ∀ j, j < 8 → t j = W j) {S : Nat} (hS : S < 256) (post : Int32 → Prop) : ∀ d i : Nat, i + d = S + 1 → 1 ≤ i → ∀ b : Int32, post (st_fw W f S d i b) → wX_fewestFor_5 post (nI S) c p m t f (d + 1) b (nI i) := by
  intro d
  induction d with
  | zero =>
    intro i hi h1 b hp
    exact br_t (nI_lt (by omega) (by omega)) hp
  | succ d ih =>
    intro i hi h1 b hp
    have hp' : post (st_fw W f S d (i + 1) (if (nI i &&& (nI S ^^^ (-1))) = 0 ∧ st_oc W (nI i) = true ∧ ¬ b ≤ f (st_df S i) + 1 then f (st_df S i) + 1 else b)) := hp
    refine br_f (nI_nlt (by omega) (by omega)) ?_
    by_cases h : (nI i &&& (nI S ^^^ (-1))) = 0
    · refine br_t h ?_
      refine br_f (by decide) ⟨st_df_in S i hS, ?_⟩
      by_cases h2 : b ≤ f (st_df S i) + 1
      · rw [if_neg (fun z => z.2.2 h2)] at hp'
        exact br_t h2 (nm_r (nI_1 i) (ih (i + 1) (by omega) (by omega) _ hp'))
      · refine br_f h2 (st_xoo c (nI i) ht ?_)
        by_cases h3 : st_oc W (nI i) = true
        · rw [if_pos ⟨h, h3, h2⟩] at hp'
          exact br_f (by rw [h3]; decide) ⟨st_df_in S i hS, nm_e (nm_r (nI_1 i) (ih (i + 1) (by omega) (by omega) _ hp'))⟩
        · rw [if_neg (fun z => h3 z.2.1)] at hp'
          exact br_t (by rw [eq_false_of_ne_true h3]; rfl) (nm_r (nI_1 i) (ih (i + 1) (by omega) (by omega) _ hp'))
    · rw [if_neg (fun z => h z.1)] at hp'
      refine br_f h ?_
      exact br_t rfl (nm_r (nI_1 i) (ih (i + 1) (by omega) (by omega) _ hp'))
theorem st_xff (c : Int32) {W : Nat → Int32} (ht : ∀ j, j < 8 → t j = W j) {post : SX → Prop} (hp : ∀ f' : Nat → Int32, f' 0 = 0 → (∀ S, 1 ≤ S → S < 256 → f' S = st_fw W f' S S 1 8) → post (c, p, m, t, f')) : ∀ d i : Nat, i + d = 256 → 1 ≤ i → ∀ f : Nat → Int32, f 0 = 0 → (∀ S, 1 ≤ S → S < i → f S = st_fw W f S S 1 8) → wX_fillFewest_9 post c (d + 1) (nI i) p m t f := by
  intro d
  induction d with
  | zero =>
    intro i hi h1 f f0 hf
    obtain rfl : i = 256 := by omega
    exact br_t (by decide) (hp f f0 hf)
  | succ d ih =>
    intro i hi h1 f f0 hf
    have e : (nI i).toNatClampNeg = i := nI_clamp (by omega)
    refine br_f (nI_ge (b := 256) (by omega) (by decide)) ?_
    refine ⟨i + 1, st_xfw c ht (by omega) _ i 1 (by omega) (by omega) 8 ⟨vp_in_nI (by omega) (by decide), nm_r (congrArg (fun k => upd f k (st_fw W f i i 1 8)) e) (nm_r (nI_1 i) (ih (i + 1) (by omega) (by omega) _ ?_ ?_))⟩⟩
    · exact (pk_un (by omega)).trans f0
    · intro S s1 s2
      have hlo : ∀ j, j < S → f j = upd f i (st_fw W f i i 1 8) j := fun j hj => (pk_un (by omega)).symm
      rw [← st_fw_lo (by omega) hlo]
      by_cases h : S = i
      · subst h; exact pk_us
      · rw [pk_un h]; exact hf S s1 (by omega)
theorem st_xl (c : Int32) {W : Nat → Int32} (ht : ∀ j, j < 8 → t j = W j) {post : SX → Prop} (hp : ∀ f' : Nat → Int32, f' 0 = 0 → (∀ S, 1 ≤ S → S < 256 → f' S = st_fw W f' S S 1 8) → post (c, p, m, t, f')) : wpX_fillFewest post (c, p, m, t, f) := by
  refine nm_e ⟨256, ?_⟩
  exact st_xff c ht hp 255 1 rfl (by omega) _ pk_us (fun S s1 s2 => by omega)
/-! ===== the reference's table ===== -/
theorem st_yfw (post : Int32 → SY → Prop) {J : Int32 → (Nat → Int32) → (Nat → Int32) → (Nat → Int32) → (Nat → Int32) → (Nat → Int32) → Prop} (c : Int32) {W l0 : Nat → Int32} {S U : Nat} (hS : S < 256) (hsub : (nI S &&& (nI U ^^^ (-1))) = 0) (ha : ∀ j, j < 256 → al j = st_b (st_oc W (nI j))) : ∀ d i : Nat, i + d = S + 1 → 1 ≤ i → ∀ (b : Int32) (l : Nat → Int32), l S = b → (∀ j, j ≠ S → l j = l0 j) → (∀ l' : Nat → Int32, l' S = st_fw W l0 S d i b → (∀ j, j ≠ S → l' j = l0 j) → J (nI (S + 1)) p m ma al l') → wY_colours_82 post J (nI U) (nI S) c (d + 1) (nI i) p m ma al l := by
  intro d
  induction d with
  | zero =>
    intro i hi h1 b l hb hl hJ
    exact br_t (nI_lt (by omega) (by omega)) (nm_r (nI_1 S) (hJ l hb hl))
  | succ d ih =>
    intro i hi h1 b l hb hl hJ
    have hJ' : ∀ l' : Nat → Int32, l' S = st_fw W l0 S d (i + 1) (if (nI i &&& (nI S ^^^ (-1))) = 0 ∧ st_oc W (nI i) = true ∧ ¬ b ≤ l0 (st_df S i) + 1 then l0 (st_df S i) + 1 else b) → (∀ j, j ≠ S → l' j = l0 j) → J (nI (S + 1)) p m ma al l' := hJ
    have eS : (nI S).toNatClampNeg = S := nI_clamp (by omega)
    have ei : (nI i).toNatClampNeg = i := nI_clamp (by omega)
    have eb : l (nI S).toNatClampNeg = b := by rw [eS]; exact hb
    have ea : al (nI i).toNatClampNeg = st_b (st_oc W (nI i)) := by rw [ei]; exact ha i (by omega)
    have iS : vp_in (nI S) 256 := vp_in_nI hS (by decide)
    refine br_f (nI_nlt (by omega) (by omega)) (br_t hsub ?_)
    by_cases h : (nI i &&& (nI S ^^^ (-1))) = 0
    · refine br_t h ⟨vp_in_nI (by omega) (by decide), ?_⟩
      by_cases h3 : st_oc W (nI i) = true
      · have hlt := st_df_lt hS h1 (by omega) h
        have er : l (nI S &&& (nI i ^^^ (-1))).toNatClampNeg + 1 = l0 (st_df S i) + 1 := by
          show l (st_df S i) + 1 = _
          rw [hl _ (by omega)]
        refine br_f (by rw [ea, h3]; decide) ⟨st_df_in S i hS, nm_r er ⟨iS, ?_⟩⟩
        by_cases h2 : b ≤ l0 (st_df S i) + 1
        · rw [if_neg (fun z => z.2.2 h2)] at hJ'
          refine br_t (by rw [eb]; exact h2) ⟨iS, iS, nm_e (nm_r (nI_1 i) (ih (i + 1) (by omega) (by omega) b _ ?_ ?_ hJ'))⟩
          · rw [eS, pk_us]; exact hb
          · intro j hj
            rw [eS, pk_un hj]; exact hl j hj
        · rw [if_pos ⟨h, h3, h2⟩] at hJ'
          refine br_f (by rw [eb]; exact h2) ⟨iS, nm_e (nm_r (nI_1 i) (ih (i + 1) (by omega) (by omega) _ _ ?_ ?_ hJ'))⟩
          · rw [eS, pk_us]
          · intro j hj
            rw [eS, pk_un hj]; exact hl j hj
      · rw [if_neg (fun z => h3 z.2.1)] at hJ'
        exact br_t (by rw [ea, eq_false_of_ne_true h3]; rfl) (nm_r (nI_1 i) (ih (i + 1) (by omega) (by omega) b l hb hl hJ'))
    · rw [if_neg (fun z => h z.1)] at hJ'
      exact br_f h (nm_r (nI_1 i) (ih (i + 1) (by omega) (by omega) b l hb hl hJ'))
theorem st_yff (c : Int32) {W : Nat → Int32} {U : Nat} (hU : U < 256) (ha : ∀ j, j < 256 → al j = st_b (st_oc W (nI j))) {post : Int32 → SY → Prop} (hp : ∀ l' : Nat → Int32, l' 0 = 0 → (∀ S, 1 ≤ S → S < 256 → (nI S &&& (nI U ^^^ (-1))) = 0 → l' S = st_fw W l' S S 1 8) → post (l' U) (c, p, m, ma, al, l')) : ∀ d i : Nat, i + d = 256 → 1 ≤ i → ∀ l : Nat → Int32, l 0 = 0 → (∀ S, 1 ≤ S → S < i → (nI S &&& (nI U ^^^ (-1))) = 0 → l S = st_fw W l S S 1 8) → (∀ S, i ≤ S → S < 256 → l S = 8) → wY_colours_73 post (nI U) c (d + 1) (nI i) p m ma al l := by
  intro d
  induction d with
  | zero =>
    intro i hi h1 l l0 hl h8
    obtain rfl : i = 256 := by omega
    refine br_t (by decide) ⟨vp_in_nI hU (by decide), ?_⟩
    rw [nI_clamp (by omega)]
    exact hp l l0 hl
  | succ d ih =>
    intro i hi h1 l l0 hl h8
    refine br_f (nI_ge (b := 256) (by omega) (by decide)) ?_
    by_cases h : (nI i &&& (nI U ^^^ (-1))) = 0
    · refine ⟨i + 1, st_yfw post c (by omega) h ha i 1 (by omega) (by omega) 8 l (h8 i (by omega) (by omega)) (fun j _ => rfl) ?_⟩
      intro l' e1 e2
      refine ih (i + 1) (by omega) (by omega) l' ((e2 0 (by omega)).trans l0) ?_ ?_
      · intro S s1 s2 s3
        have hlo : ∀ j, j < S → l j = l' j := fun j hj => (e2 j (by omega)).symm
        rw [← st_fw_lo (by omega) hlo]
        by_cases hS : S = i
        · subst hS; exact e1
        · rw [e2 S hS]; exact hl S s1 (by omega) s3
      · intro S s1 s2
        rw [e2 S (by omega)]; exact h8 S (by omega) s2
    · refine ⟨1, br_f (nI_nlt (by omega) (by omega)) (br_f h (nm_r (nI_1 i) (ih (i + 1) (by omega) (by omega) l l0 ?_ ?_)))⟩
      · intro S s1 s2 s3
        by_cases hS : S = i
        · subst hS; exact absurd s3 h
        · exact hl S s1 (by omega) s3
      · exact fun S s1 s2 => h8 S (by omega) s2
theorem st_vb (b : Bool) : vp_nar .boolean (st_b b) = st_b b := by
  cases b <;> rfl
theorem st_yal (c : Int32) {W : Nat → Int32} {U : Nat} (hU : U < 256) (ht : ∀ j, j < 8 → ma j = W j) {post : Int32 → SY → Prop} (hp : ∀ al' l' : Nat → Int32, l' 0 = 0 → (∀ S, 1 ≤ S → S < 256 → (nI S &&& (nI U ^^^ (-1))) = 0 → l' S = st_fw W l' S S 1 8) → post (l' U) (c, p, m, ma, al', l')) : ∀ d i : Nat, i + d = 256 → ∀ al l : Nat → Int32, (0 < i → l 0 = 0) → (∀ S, 1 ≤ S → S < i → l S = 8) → (∀ j, j < i → al j = st_b (st_oc W (nI j))) → wY_colours_31 post (nI U) c (d + 1) (nI i) p m ma al l := by
  intro d
  induction d with
  | zero =>
    intro i hi al l l0 h8 ha
    obtain rfl : i = 256 := by omega
    refine br_t (by decide) ⟨256, ?_⟩
    exact st_yff c hU ha (hp al) 255 1 rfl (by omega) l (l0 (by omega)) (fun S s1 s2 => by omega) (fun S s1 s2 => h8 S s1 s2)
  | succ d ih =>
    intro i hi al l l0 h8 ha
    have e : (nI i).toNatClampNeg = i := nI_clamp (by omega)
    have iS : vp_in (nI i) 256 := vp_in_nI (by omega) (by decide)
    have ea : upd al (nI i).toNatClampNeg (vp_nar .boolean (st_b (st_oc W (nI i)))) = upd al i (st_b (st_oc W (nI i))) := by rw [e, st_vb]
    have ha' : ∀ j, j < i + 1 → upd al i (st_b (st_oc W (nI i))) j = st_b (st_oc W (nI j)) := by
      intro j hj
      by_cases h : j = i
      · rw [h]; exact pk_us
      · exact (pk_un h).trans (ha j (by omega))
    refine br_f (nI_ge (b := 256) (by omega) (by decide)) (st_yoo c (nI i) ht ⟨iS, nm_r ea ?_⟩)
    by_cases h : i = 0
    · subst h
      refine br_t rfl ⟨iS, nm_r (congrArg (fun k => upd l k 0) e) (nm_r (nI_1 0) (ih 1 (by omega) _ _ (fun _ => pk_us) (fun S s1 s2 => by omega) ha'))⟩
    · refine br_f (nI_ne0 (by omega) (by omega)) ⟨iS, nm_r (congrArg (fun k => upd l k 8) e) (nm_r (nI_1 i) (ih (i + 1) (by omega) _ _ (fun _ => (pk_un (by omega)).trans (l0 (by omega))) ?_ ha'))⟩
      intro S s1 s2
      by_cases hS : S = i
      · rw [hS]; exact pk_us
      · exact (pk_un hS).trans (h8 S s1 (by omega))
theorem st_yus (c : Int32) {W : Nat → Int32} {U : Nat} (hU : U < 256) (ht : ∀ j, j < 8 → ma j = W j) {post : Int32 → SY → Prop} (hp : ∀ al' l' : Nat → Int32, l' 0 = 0 → (∀ S, 1 ≤ S → S < 256 → (nI S &&& (nI U ^^^ (-1))) = 0 → l' S = st_fw W l' S S 1 8) → post (l' U) (c, p, m, ma, al', l')) : ∀ d i : Nat, i + d = 8 → ∀ a : Int32, st_or W d i a = nI U → wY_colours_8 post c p m ma al le (d + 1) a (nI i) := by
  intro d
  induction d with
  | zero =>
    intro i hi a he
    obtain rfl : i = 8 := by omega
    have he' : a = nI U := he
    subst he'
    refine br_t (by decide) ⟨257, ?_⟩
    exact st_yal c hU ht hp 256 0 rfl al le (fun h => absurd h (Nat.lt_irrefl 0)) (fun S s1 s2 => by omega) (fun j hj => absurd hj (Nat.not_lt_zero j))
  | succ d ih =>
    intro i hi a he
    have e : ma (nI i).toNatClampNeg = W i := by rw [nI_clamp (by omega)]; exact ht i (by omega)
    exact br_f (nI_ge (b := 8) (by omega) (by decide)) ⟨vp_in_nI (by omega) (by decide), nm_r (congrArg (fun k => a ||| k) e) (nm_r (nI_1 i) (ih (i + 1) (by omega) _ he))⟩
end
