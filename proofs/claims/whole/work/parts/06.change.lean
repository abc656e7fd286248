/-! the calls that change: shape, fun, field, dropField -/
/-- the relation: both keep the same shapes, arguments and results; the same fields of records; the reference's relation is the pure one where it calls it known -/
def i_Rel (_ : Nat) (u : SX) (v : SY) : Prop :=
  ∃ (sh ar rs pr op ft bl fl oq bw : Nat → Int32) (kn : Int32), u = (sh, ar, rs, pr, op, ft, bl) ∧ v = (kn, sh, ar, rs, fl, oq, bw) ∧ zt_D sh ar rs fl ∧ zt_R sh pr op ft fl oq ∧ zt_K kn bw (zt_G (zt_H sh ar rs fl oq))
theorem zt_mk {k : Nat} {sh ar rs pr op ft bl fl oq bw : Nat → Int32} {kn : Int32} (hD : zt_D sh ar rs fl) (hR : zt_R sh pr op ft fl oq) (hK : zt_K kn bw (zt_G (zt_H sh ar rs fl oq))) : i_Rel k (sh, ar, rs, pr, op, ft, bl) (kn, sh, ar, rs, fl, oq, bw) :=
  ⟨sh, ar, rs, pr, op, ft, bl, fl, oq, bw, kn, rfl, rfl, hD, hR, hK⟩
theorem zt_K0 {bw : Nat → Int32} {G : Nat → Bool} : zt_K 0 bw G := fun h => absurd rfl h
theorem zt_u0 (k : Nat) : upd (fun _ => 0) k 0 = (fun _ => 0 : Nat → Int32) := by
  funext j
  by_cases z : j = k
  · rw [z, pk_us]
  · rw [pk_un z]
theorem zx_init0 {post : SX → Prop} {ar rs pr op ft bl : Nat → Int32} (h : post ((fun _ => 0), ar, rs, pr, op, ft, bl)) : ∀ (d i n : Nat), i + d = 16 → d < n → wX_init_63 post n (nI i) (fun _ => 0) ar rs pr op ft bl := by
  intro d
  induction d with
  | zero =>
    intro i n e hn
    obtain ⟨m, rfl⟩ : ∃ m, n = m + 1 := ⟨n - 1, by omega⟩
    obtain rfl : i = 16 := by omega
    exact br_t zt_16e h
  | succ d ih =>
    intro i n e hn
    obtain ⟨m, rfl⟩ : ∃ m, n = m + 1 := ⟨n - 1, by omega⟩
    have hi : i < 16 := by omega
    exact br_f (zt_16 hi) ⟨vp_in_nI hi (by decide), nm_r (zt_u0 _) (nm_r (nI_1 i) (ih (i + 1) m (by omega) (by omega)))⟩
theorem zt_4 {i : Nat} (h : i < 4) : ¬ (4 : Int32) ≤ nI i := nI_ge (b := 4) h (by decide)
theorem zt_4e : (4 : Int32) ≤ nI 4 := nI_le (a := 4) (b := 4) (Nat.le_refl _) (by decide)
section
variable {kn : Int32} {sh ar rs pr op ft bl fl oq bw : Nat → Int32}
/-- four stores of x from slot i * 4 on -/
def zt_clr (x : Int32) (i : Nat) (f g : Nat → Int32) : Prop := (∀ l, l < 4 → g (i * 4 + l) = x) ∧ ∀ q, q < i * 4 ∨ i * 4 + 4 ≤ q → g q = f q
theorem zx_rsl {post : Int32 → SX → Prop} {x3 : Int32} {i : Nat} (hi : i < 16) (h : ∀ g : Nat → Int32, zt_clr 0 i pr g → post x3 (sh, ar, rs, g, op, ft, bl)) :
    ∀ (d l n : Nat) (g : Nat → Int32), l + d = 4 → d < n → (∀ m, m < l → g (i * 4 + m) = 0) → (∀ q, q < i * 4 ∨ i * 4 + 4 ≤ q → g q = pr q) → wX_reshape_17 post (nI i) x3 n (nI l) sh ar rs g op ft bl := by
  intro d
  induction d with
  | zero =>
    intro l n g e hn h1 h2
    obtain ⟨m, rfl⟩ : ∃ m, n = m + 1 := ⟨n - 1, by omega⟩
    obtain rfl : l = 4 := by omega
    exact br_t zt_4e (h g ⟨h1, h2⟩)
  | succ d ih =>
    intro l n g e hn h1 h2
    obtain ⟨m, rfl⟩ : ∃ m, n = m + 1 := ⟨n - 1, by omega⟩
    have hl : l < 4 := by omega
    refine br_f (zt_4 hl) ?_
    rw [zt_sx, nI_clamp (n := i * 4 + l) (by omega)]
    refine ⟨vp_in_nI (by omega) (by decide), nm_r (e' := upd g (i * 4 + l) 0) rfl (nm_r (nI_1 l) (ih (l + 1) m _ (by omega) (by omega) (fun j hj => ?_) (fun q hq => ?_)))⟩
    · by_cases z : j = l
      · rw [z, pk_us]
      · rw [pk_un (by omega)]; exact h1 j (by omega)
    · rw [pk_un (by omega)]; exact h2 q hq
theorem zx_reshape {post : Int32 → SX → Prop} {p1 : Int32} {i : Nat} (hi : i < 16) (h : ∀ g : Nat → Int32, zt_clr 0 i pr g → post (sh i) (upd sh i p1, ar, rs, g, op, ft, bl)) : wpX_reshape post (sh, ar, rs, pr, op, ft, bl) (nI i) p1 := by
  have ci : (nI i).toNatClampNeg = i := nI_clamp (by omega)
  have ii : vp_in (nI i) 16 := vp_in_nI hi (by decide)
  unfold wpX_reshape
  dsimp only
  rw [ci]
  refine ⟨ii, nm_e ⟨ii, nm_e ?_⟩⟩
  have key : ∃ n : Nat, wX_reshape_17 post (nI i) (sh i) n (nI 0) (upd sh i p1) ar rs pr op ft bl := ⟨5, zx_rsl hi h 4 0 5 pr rfl (by decide) (fun m hm => absurd hm (Nat.not_lt_zero m)) (fun q _ => rfl)⟩
  exact key
theorem zy_shl {post : Int32 → SY → Prop} {x3 : Int32} {i : Nat} (hi : i < 16) (h : ∀ g : Nat → Int32, zt_clr (-1) i fl g → post x3 (0, sh, ar, rs, g, oq, bw)) :
    ∀ (d l n : Nat) (g : Nat → Int32), l + d = 4 → d < n → (∀ m, m < l → g (i * 4 + m) = (-1)) → (∀ q, q < i * 4 ∨ i * 4 + 4 ≤ q → g q = fl q) → wY_shape_44 post (nI i) x3 kn n (nI l) sh ar rs g oq bw := by
  intro d
  induction d with
  | zero =>
    intro l n g e hn h1 h2
    obtain ⟨m, rfl⟩ : ∃ m, n = m + 1 := ⟨n - 1, by omega⟩
    obtain rfl : l = 4 := by omega
    exact br_t zt_4e (h g ⟨h1, h2⟩)
  | succ d ih =>
    intro l n g e hn h1 h2
    obtain ⟨m, rfl⟩ : ∃ m, n = m + 1 := ⟨n - 1, by omega⟩
    have hl : l < 4 := by omega
    refine br_f (zt_4 hl) ?_
    rw [zt_sx, nI_clamp (n := i * 4 + l) (by omega)]
    refine ⟨vp_in_nI (by omega) (by decide), nm_r (e' := upd g (i * 4 + l) (-1)) rfl (nm_r (nI_1 l) (ih (l + 1) m _ (by omega) (by omega) (fun j hj => ?_) (fun q hq => ?_)))⟩
    · by_cases z : j = l
      · rw [z, pk_us]
      · rw [pk_un (by omega)]; exact h1 j (by omega)
    · rw [pk_un (by omega)]; exact h2 q hq
/-- the two refusals are one: 0 for a label of a record, else below 0 -/
theorem zt_ff (v1 v2 : Int32) : ∃ r : Int32, (∀ post : Int32 → Prop, post r → wpX_fieldFault post (sh, ar, rs, pr, op, ft, bl) v1 v2) ∧ (∀ post : Int32 → Prop, post r → wpY_refusal post (kn, sh, ar, rs, fl, oq, bw) v1 v2) ∧ ((r = 0 ∧ ∃ i l : Nat, i < 16 ∧ l < 4 ∧ v1 = nI i ∧ v2 = nI l ∧ sh i = 5) ∨ (¬ r = 0 ∧ ¬ 0 ≤ r)) := by
  rcases zt_tz v1 with b1 | ⟨i, hi, rfl⟩
  · refine ⟨-1, fun post h => ?_, fun post h => ?_, Or.inr ⟨by decide, by decide⟩⟩
    · unfold wpX_fieldFault
      exact zx_tyN b1 (br_t rfl h)
    · unfold wpY_refusal
      exact zy_badN b1 (br_f (by decide) h)
  have ci : (nI i).toNatClampNeg = i := nI_clamp (by omega)
  have ii : vp_in (nI i) 16 := vp_in_nI hi (by decide)
  rcases pk_ix v2 (n := 4) (by decide) with h0 | h4 | ⟨l, hl, rfl⟩
  · refine ⟨-2, fun post h => ?_, fun post h => ?_, Or.inr ⟨by decide, by decide⟩⟩
    · unfold wpX_fieldFault
      exact zx_ty hi (br_f (by decide) (br_t h0 h))
    · unfold wpY_refusal
      exact zy_bad hi (br_t rfl (br_t h0 h))
  · have h4' : (4 : Int32) ≤ v2 := h4
    have n0 : ¬ v2 < 0 := Int32.not_lt.mpr (Int32.le_trans (by decide) h4')
    have n4 : ¬ v2 < 4 := Int32.not_lt.mpr h4'
    have n3 : ¬ v2 ≤ 3 := by
      have e4 : (4 : Int32).toInt = 4 := by decide
      have e3 : (3 : Int32).toInt = 3 := by decide
      rw [Int32.le_iff_toInt_le] at h4' ⊢
      omega
    refine ⟨-2, fun post h => ?_, fun post h => ?_, Or.inr ⟨by decide, by decide⟩⟩
    · unfold wpX_fieldFault
      exact zx_ty hi (br_f (by decide) (br_f n0 (br_f n4 h)))
    · unfold wpY_refusal
      exact zy_bad hi (br_t rfl (br_f n0 (br_f n3 h)))
  have n0 : ¬ nI l < 0 := nI_pos (by omega)
  have l4 : nI l < (4 : Int32) := nI_lt (b := 4) hl (by decide)
  have l3 : nI l ≤ (3 : Int32) := nI_le (b := 3) (by omega) (by decide)
  by_cases c : sh i = 5
  · refine ⟨0, fun post h => ?_, fun post h => ?_, Or.inl ⟨rfl, i, l, hi, hl, rfl, rfl, c⟩⟩
    · unfold wpX_fieldFault
      exact zx_ty hi (br_f (by decide) (br_f n0 (br_t l4 ⟨ii, br_t (by rw [ci]; exact c) h⟩)))
    · unfold wpY_refusal
      exact zy_bad hi (br_t rfl (br_f n0 (br_t l3 ⟨ii, br_t (by rw [ci]; exact c) h⟩)))
  · refine ⟨-3, fun post h => ?_, fun post h => ?_, Or.inr ⟨by decide, by decide⟩⟩
    · unfold wpX_fieldFault
      exact zx_ty hi (br_f (by decide) (br_f n0 (br_t l4 ⟨ii, br_f (by rw [ci]; exact c) h⟩)))
    · unfold wpY_refusal
      exact zy_bad hi (br_t rfl (br_f n0 (br_t l3 ⟨ii, br_f (by rw [ci]; exact c) h⟩)))
def zt_w (x : Int32) : Int32 := if x = 0 then 0 else 1
theorem zx_set {post : Int32 → SX → Prop} {x3 x4 z0 : Int32} {q : Nat} (hq : q < 64) (h : post z0 (sh, ar, rs, upd pr q 1, upd op q (zt_w x4), upd ft q x3, bl)) : wX_field_48 post x3 x4 (nI q) z0 sh ar rs pr op ft bl := by
  have cq : (nI q).toNatClampNeg = q := nI_clamp (by omega)
  have iq : vp_in (nI q) 64 := vp_in_nI hq (by decide)
  refine ⟨iq, nm_r (e' := upd pr q 1) (by rw [cq]; rfl) ?_⟩
  by_cases z : x4 = 0
  · rw [show zt_w x4 = 0 from if_pos z] at h
    exact br_t z ⟨iq, nm_r (e' := upd op q 0) (by rw [cq]; rfl) ⟨iq, nm_r (e' := upd ft q x3) (by rw [cq]) h⟩⟩
  · rw [show zt_w x4 = 1 from if_neg z] at h
    exact br_f z ⟨iq, nm_r (e' := upd op q 1) (by rw [cq]; rfl) ⟨iq, nm_r (e' := upd ft q x3) (by rw [cq]) h⟩⟩
theorem zy_set {post : Int32 → SY → Prop} {p1 p2 : Int32} {q : Nat} (hq : q < 64) (h0 : fl q < 0 → post 0 (0, sh, ar, rs, upd fl q p1, upd oq q (vp_nar .boolean p2), bw)) (h1 : ¬ fl q < 0 → post 1 (0, sh, ar, rs, upd fl q p1, upd oq q (vp_nar .boolean p2), bw)) : wpY_setField post (kn, sh, ar, rs, fl, oq, bw) (nI q) p1 p2 := by
  have cq : (nI q).toNatClampNeg = q := nI_clamp (by omega)
  have iq : vp_in (nI q) 64 := vp_in_nI hq (by decide)
  unfold wpY_setField
  dsimp only
  rw [cq]
  exact ⟨iq, br_c (fun z => ⟨iq, nm_r (e' := upd fl q p1) (by rw [cq]) ⟨iq, nm_r (e' := upd oq q (vp_nar .boolean p2)) (by rw [cq]) (h0 z)⟩⟩) (fun z => ⟨iq, nm_r (e' := upd fl q p1) (by rw [cq]) ⟨iq, nm_r (e' := upd oq q (vp_nar .boolean p2)) (by rw [cq]) (h1 z)⟩⟩)⟩
/-! what stays after each change -/
theorem zt_upr {n m i : Nat} {f : Nat → Int32} {x : Int32} (hf : ∀ j, j < n → ∃ a : Nat, a < m ∧ f j = nI a) (hx : ∃ a : Nat, a < m ∧ x = nI a) : ∀ j, j < n → ∃ a : Nat, a < m ∧ upd f i x j = nI a := by
  intro j hj
  by_cases z : j = i
  · rw [z, pk_us]; exact hx
  · rw [pk_un z]; exact hf j hj
theorem zt_Dshape {i j : Nat} {g : Nat → Int32} (hD : zt_D sh ar rs fl) (hi : i < 16) (hj : j < 6) (hg : zt_clr (-1) i fl g) : zt_D (upd sh i (nI j)) ar rs g := by
  refine ⟨zt_upr hD.1 ⟨j, hj, rfl⟩, hD.2.1, hD.2.2.1, fun q hq => ?_⟩
  by_cases z : q < i * 4 ∨ i * 4 + 4 ≤ q
  · rw [hg.2 q z]; exact hD.2.2.2 q hq
  · have e := hg.1 (q - i * 4) (by omega)
    rw [show i * 4 + (q - i * 4) = q from by omega] at e
    rw [e]; exact Or.inl (by decide)
theorem zt_Rshape {i : Nat} {x : Int32} {p g : Nat → Int32} (hR : zt_R sh pr op ft fl oq) (hp : zt_clr 0 i pr p) (hg : zt_clr (-1) i fl g) : zt_R (upd sh i x) p op ft g oq := by
  intro a l ha hl h5
  by_cases z : a = i
  · rw [z, hp.1 l hl, hg.1 l hl]; exact Or.inl ⟨rfl, by decide⟩
  · rw [pk_un z] at h5
    rw [hp.2 _ (by omega), hg.2 _ (by omega)]
    exact hR a l ha hl h5
theorem zt_Dfun {i j k : Nat} (hD : zt_D sh ar rs fl) (hj : j < 16) (hk : k < 16) : zt_D (upd sh i 4) (upd ar i (nI j)) (upd rs i (nI k)) fl :=
  ⟨zt_upr hD.1 ⟨4, by decide, rfl⟩, zt_upr hD.2.1 ⟨j, hj, rfl⟩, zt_upr hD.2.2.1 ⟨k, hk, rfl⟩, hD.2.2.2⟩
theorem zt_Rfun {i : Nat} {p : Nat → Int32} (hR : zt_R sh pr op ft fl oq) (hp : zt_clr 0 i pr p) : zt_R (upd sh i 4) p op ft fl oq := by
  intro a l ha hl h5
  by_cases z : a = i
  · rw [z, pk_us] at h5; exact absurd h5 (by decide)
  · rw [pk_un z] at h5
    rw [hp.2 _ (by omega)]
    exact hR a l ha hl h5
theorem zt_Dset {q j : Nat} (hD : zt_D sh ar rs fl) (hj : j < 16) : zt_D sh ar rs (upd fl q (nI j)) := by
  refine ⟨hD.1, hD.2.1, hD.2.2.1, fun p hp => ?_⟩
  by_cases z : p = q
  · rw [z, pk_us]; exact Or.inr ⟨j, hj, rfl⟩
  · rw [pk_un z]; exact hD.2.2.2 p hp
theorem zt_Rset {q j : Nat} {w : Int32} (hR : zt_R sh pr op ft fl oq) (hj : j < 16) : zt_R sh (upd pr q 1) (upd op q w) (upd ft q (nI j)) (upd fl q (nI j)) (upd oq q w) := by
  intro a l ha hl h5
  by_cases z : a * 4 + l = q
  · rw [z, pk_us, pk_us, pk_us, pk_us, pk_us]; exact Or.inr ⟨by decide, nI_pos (by omega), rfl, rfl⟩
  · rw [pk_un z, pk_un z, pk_un z, pk_un z, pk_un z]; exact hR a l ha hl h5
theorem zt_Ddrop {q : Nat} (hD : zt_D sh ar rs fl) : zt_D sh ar rs (upd fl q (-1)) := by
  refine ⟨hD.1, hD.2.1, hD.2.2.1, fun p hp => ?_⟩
  by_cases z : p = q
  · rw [z, pk_us]; exact Or.inl (by decide)
  · rw [pk_un z]; exact hD.2.2.2 p hp
theorem zt_Rdrop {q : Nat} {w : Int32} (hR : zt_R sh pr op ft fl oq) : zt_R sh (upd pr q 0) op ft (upd fl q (-1)) (upd oq q w) := by
  intro a l ha hl h5
  by_cases z : a * 4 + l = q
  · rw [z, pk_us, pk_us]; exact Or.inl ⟨rfl, by decide⟩
  · rw [pk_un z, pk_un z, pk_un z]; exact hR a l ha hl h5
end
