section
/-! rows of kit/rows, pasted: stores, arithmetic, branches by naturals -/
theorem pk_us {f : Nat → Int32} {k : Nat} {x : Int32} : upd f k x k = x := if_pos rfl
theorem pk_un {f : Nat → Int32} {k j : Nat} {x : Int32} (h : j ≠ k) : upd f k x j = f j := if_neg h
theorem pk_sub {a b : Nat} (h : b ≤ a) : nI a - nI b = nI (a - b) := by
  obtain ⟨c, rfl⟩ : ∃ c, a = c + b := ⟨a - b, by omega⟩
  rw [← nI_add, Int32.add_sub_cancel, Nat.add_sub_cancel]
theorem pk_m1 (n : Nat) : nI (n + 1) + (-1) = nI n := by
  rw [← nI_1, Int32.add_assoc, show (1 : Int32) + (-1) = 0 from rfl, Int32.add_zero]
theorem pk_mul (a b : Nat) : nI a * nI b = nI (a * b) := (Int32.ofNat_mul a b).symm
theorem pk_div {a d : Nat} (ha : a < 2 ^ 31) (h0 : 0 < d) (hd : d < 2 ^ 31) : nI a / nI d = nI (a / d) := by
  apply Int32.toInt_inj.mp
  rw [lg_idiv_nonneg (by rw [nI_toInt ha]; omega) (by rw [nI_toInt hd]; omega), nI_toInt ha, nI_toInt hd, nI_toInt (Nat.lt_of_le_of_lt (Nat.div_le_self a d) ha)]
  first | rfl | exact (Int.natCast_ediv _ _).symm
theorem pk_rem {a d : Nat} (ha : a < 2 ^ 31) (h0 : 0 < d) (hd : d < 2 ^ 31) : nI a - nI a / nI d * nI d = nI (a % d) := by
  rw [pk_div ha h0 hd, pk_mul, pk_sub (Nat.div_mul_le_self a d)]
  exact congrArg nI (by have := Nat.div_add_mod' a d; omega)
theorem pk_ix (x : Int32) {n : Nat} (hn : n < 2 ^ 31) : x < 0 ∨ nI n ≤ x ∨ ∃ j : Nat, j < n ∧ x = nI j := by
  by_cases h : x < 0
  · exact Or.inl h
  · obtain ⟨j, hj, rfl⟩ := nI_of h
    by_cases h2 : j < n
    · exact Or.inr (Or.inr ⟨j, h2, rfl⟩)
    · exact Or.inr (Or.inl (nI_le (by omega) hj))
theorem pk_le {x y : Int32} {A B : Prop} (a b : Nat) (f : a ≤ b → A) (g : b < a → B) (hx : x = nI a := by rfl) (hy : y = nI b := by rfl) (ha : a < 2 ^ 31 := by omega) (hb : b < 2 ^ 31 := by omega) : (x ≤ y → A) ∧ (¬ x ≤ y → B) := by
  subst hx hy
  rw [nI_leI ha hb]
  exact ⟨f, fun z => g (by omega)⟩
theorem pk_lt {x y : Int32} {A B : Prop} (a b : Nat) (f : a < b → A) (g : b ≤ a → B) (hx : x = nI a := by rfl) (hy : y = nI b := by rfl) (ha : a < 2 ^ 31 := by omega) (hb : b < 2 ^ 31 := by omega) : (x < y → A) ∧ (¬ x < y → B) := by
  subst hx hy
  rw [nI_ltI ha hb]
  exact ⟨f, fun z => g (by omega)⟩
theorem pk_eq {x y : Int32} {A B : Prop} (a b : Nat) (f : a = b → A) (g : a ≠ b → B) (hx : x = nI a := by rfl) (hy : y = nI b := by rfl) (ha : a < 2 ^ 31 := by omega) (hb : b < 2 ^ 31 := by omega) : (x = y → A) ∧ (¬ x = y → B) := by
  subst hx hy
  rw [nI_eq ha hb]
  exact ⟨f, g⟩
theorem pk_in {x : Int32} (n N : Nat) (h : n < N) (hx : x = nI n := by rfl) (hN : N < 2 ^ 31 := by omega) : vp_in x N := by
  subst hx
  exact vp_in_nI h hN
theorem pk_cl {x : Int32} (n : Nat) (hx : x = nI n := by rfl) (h : n < 2 ^ 31 := by omega) : x.toNatClampNeg = n := by
  subst hx
  exact nI_clamp h
/-! the pure picture: a truth value as it is kept, one pass over the 256 pairs, up to 257 passes -/
def zt_i (b : Bool) : Int32 := if b = true then 1 else 0
theorem zt_it1 : zt_i true = 1 := rfl
theorem zt_if0 : zt_i false = 0 := rfl
theorem zt_i0 {b : Bool} : zt_i b = 0 ↔ b = false := by cases b <;> decide
theorem zt_i1 {b : Bool} : ¬ zt_i b = 0 ↔ b = true := by cases b <;> decide
theorem zt_nar (b : Bool) : narrow .boolean (.int (zt_i b)) = .int (zt_i b) := by cases b <;> rfl
theorem zt_vn0 : vp_nar .boolean 0 = 0 := rfl
theorem zt_vn1 : vp_nar .boolean 1 = 1 := rfl
def zt_at (bl : Nat → Int32) (B : Nat → Bool) : Prop := ∀ p, p < 256 → bl p = zt_i (B p)
def zt_pass (H : (Nat → Bool) → Nat → Bool) (B : Nat → Bool) : Nat → (Nat → Bool)
  | 0 => B
  | i + 1 => fun q => if q = i then (zt_pass H B i i && H (zt_pass H B i) i) else zt_pass H B i q
def zt_flag (H : (Nat → Bool) → Nat → Bool) (B : Nat → Bool) : Nat → Bool
  | 0 => false
  | i + 1 => zt_flag H B i || (zt_pass H B i i && !H (zt_pass H B i) i)
def zt_rep (H : (Nat → Bool) → Nat → Bool) : Nat → (Nat → Bool) → (Nat → Bool)
  | 0, B => B
  | k + 1, B => if zt_flag H B 256 = true then zt_rep H k (zt_pass H B 256) else zt_pass H B 256
def zt_G (H : (Nat → Bool) → Nat → Bool) : Nat → Bool := zt_rep H 257 (fun _ => true)
theorem zt_s0 {H : (Nat → Bool) → Nat → Bool} {B : Nat → Bool} {i : Nat} {bl : Nat → Int32} (h : zt_at bl (zt_pass H B i)) (e : zt_pass H B i i = false) : zt_at bl (zt_pass H B (i + 1)) ∧ zt_flag H B (i + 1) = zt_flag H B i := by
  refine ⟨fun p hp => ?_, ?_⟩
  · rw [h p hp]
    show _ = zt_i (if p = i then (zt_pass H B i i && H (zt_pass H B i) i) else zt_pass H B i p)
    by_cases z : p = i
    · rw [if_pos z, z, e, Bool.false_and]
    · rw [if_neg z]
  · show (zt_flag H B i || (zt_pass H B i i && !H (zt_pass H B i) i)) = zt_flag H B i
    rw [e, Bool.false_and, Bool.or_false]
theorem zt_s1 {H : (Nat → Bool) → Nat → Bool} {B : Nat → Bool} {i : Nat} {bl : Nat → Int32} (h : zt_at bl (zt_pass H B i)) (e : zt_pass H B i i = true) (e2 : H (zt_pass H B i) i = true) : zt_at bl (zt_pass H B (i + 1)) ∧ zt_flag H B (i + 1) = zt_flag H B i := by
  refine ⟨fun p hp => ?_, ?_⟩
  · rw [h p hp]
    show _ = zt_i (if p = i then (zt_pass H B i i && H (zt_pass H B i) i) else zt_pass H B i p)
    by_cases z : p = i
    · rw [if_pos z, z, e, e2, Bool.true_and]
    · rw [if_neg z]
  · show (zt_flag H B i || (zt_pass H B i i && !H (zt_pass H B i) i)) = zt_flag H B i
    rw [e, e2, Bool.true_and, Bool.not_true, Bool.or_false]
theorem zt_s2 {H : (Nat → Bool) → Nat → Bool} {B : Nat → Bool} {i : Nat} {bl : Nat → Int32} (h : zt_at bl (zt_pass H B i)) (e : zt_pass H B i i = true) (e2 : H (zt_pass H B i) i = false) : zt_at (upd bl i 0) (zt_pass H B (i + 1)) ∧ zt_flag H B (i + 1) = true := by
  refine ⟨fun p hp => ?_, ?_⟩
  · show _ = zt_i (if p = i then (zt_pass H B i i && H (zt_pass H B i) i) else zt_pass H B i p)
    by_cases z : p = i
    · rw [if_pos z, z, e, e2, Bool.true_and, pk_us]; rfl
    · rw [if_neg z, pk_un z]; exact h p hp
  · show (zt_flag H B i || (zt_pass H B i i && !H (zt_pass H B i) i)) = true
    rw [e, e2, Bool.true_and, Bool.not_false, Bool.or_true]
theorem zt_rep1 {H : (Nat → Bool) → Nat → Bool} {B : Nat → Bool} {k : Nat} (h : zt_flag H B 256 = true) : zt_rep H (k + 1) B = zt_rep H k (zt_pass H B 256) := if_pos h
theorem zt_rep0 {H : (Nat → Bool) → Nat → Bool} {B : Nat → Bool} {k : Nat} (h : zt_flag H B 256 = false) : zt_rep H (k + 1) B = zt_pass H B 256 := if_neg (by rw [h]; decide)
/-! the rule, over the arrays of the state: shapes, arguments, results, field types (below 0: none), optional -/
def zt_fo (fl oq : Nat → Int32) (B : Nat → Bool) (a b : Nat) : Bool :=
  if fl b < 0 then true else if fl a < 0 then false else if (¬ oq a = 0 ∧ oq b = 0) then false else B ((fl a).toNatClampNeg * 16 + (fl b).toNatClampNeg)
def zt_rc (fl oq : Nat → Int32) (B : Nat → Bool) (s t : Nat) : Bool :=
  zt_fo fl oq B (s * 4) (t * 4) && (zt_fo fl oq B (s * 4 + 1) (t * 4 + 1) && (zt_fo fl oq B (s * 4 + 2) (t * 4 + 2) && zt_fo fl oq B (s * 4 + 3) (t * 4 + 3)))
def zt_h (sh ar rs fl oq : Nat → Int32) (B : Nat → Bool) (s t : Nat) : Bool :=
  if sh t = 2 then true else if sh s = 3 then true else if ¬ sh s = sh t then false
  else if sh s = 4 then (B ((ar t).toNatClampNeg * 16 + (ar s).toNatClampNeg) && B ((rs s).toNatClampNeg * 16 + (rs t).toNatClampNeg))
  else if sh s = 5 then zt_rc fl oq B s t else true
def zt_H (sh ar rs fl oq : Nat → Int32) (B : Nat → Bool) (p : Nat) : Bool := zt_h sh ar rs fl oq B (p / 16) (p % 16)
/-- what the state's arrays keep: shapes 0 .. 5, arguments and results types, a field none or a type -/
def zt_D (sh ar rs fl : Nat → Int32) : Prop :=
  (∀ i, i < 16 → ∃ j : Nat, j < 6 ∧ sh i = nI j) ∧ (∀ i, i < 16 → ∃ j : Nat, j < 16 ∧ ar i = nI j) ∧ (∀ i, i < 16 → ∃ j : Nat, j < 16 ∧ rs i = nI j) ∧ (∀ i, i < 64 → fl i < 0 ∨ ∃ j : Nat, j < 16 ∧ fl i = nI j)
/-- the fields of the types that are records now, on both sides -/
def zt_R (sh pr op ft fl oq : Nat → Int32) : Prop :=
  ∀ i l : Nat, i < 16 → l < 4 → sh i = 5 → (pr (i * 4 + l) = 0 ∧ fl (i * 4 + l) < 0) ∨ (¬ pr (i * 4 + l) = 0 ∧ ¬ fl (i * 4 + l) < 0 ∧ ft (i * 4 + l) = fl (i * 4 + l) ∧ op (i * 4 + l) = oq (i * 4 + l))
/-! what the calls count, over the relation G -/
def zt_eqv (G : Nat → Bool) (s t : Nat) : Bool := G (s * 16 + t) && G (t * 16 + s)
def zt_fst (G : Nat → Bool) (t : Nat) : Nat → Bool
  | 0 => true
  | s + 1 => zt_fst G t s && !zt_eqv G s t
def zt_kin (G : Nat → Bool) : Nat → Nat
  | 0 => 0
  | t + 1 => if zt_fst G t t = true then zt_kin G t + 1 else zt_kin G t
def zt_unr (G : Nat → Bool) (t : Nat) : Nat → Nat
  | 0 => 0
  | s + 1 => if (G (s * 16 + t) = false ∧ G (t * 16 + s) = false) then zt_unr G t s + 1 else zt_unr G t s
def zt_una (G : Nat → Bool) : Nat → Nat
  | 0 => 0
  | t + 1 => zt_una G t + zt_unr G t t
def zt_msk (G : Nat → Bool) (t : Nat) : Nat → Int32
  | 0 => 0
  | s + 1 => if G (s * 16 + t) = true then zt_msk G t s ||| ((1 : Int32) <<< (nI s &&& 31)) else zt_msk G t s
theorem zt_fst_f {G : Nat → Bool} {t s : Nat} (h : zt_fst G t s = false) : ∀ d : Nat, zt_fst G t (s + d) = false
  | 0 => h
  | d + 1 => by
    show (zt_fst G t (s + d) && !zt_eqv G (s + d) t) = false
    rw [zt_fst_f h d, Bool.false_and]
theorem zt_fst1 {G : Nat → Bool} {t s : Nat} (h : zt_eqv G s t = true) : zt_fst G t (s + 1) = false := by
  show (zt_fst G t s && !zt_eqv G s t) = false
  rw [h, Bool.not_true, Bool.and_false]
theorem zt_fst0 {G : Nat → Bool} {t s : Nat} (h : zt_eqv G s t = false) : zt_fst G t (s + 1) = zt_fst G t s := by
  show (zt_fst G t s && !zt_eqv G s t) = zt_fst G t s
  rw [h, Bool.not_false, Bool.and_true]
theorem zt_fstx {G : Nat → Bool} {t s : Nat} (hs : s < t) (h : zt_eqv G s t = true) : zt_fst G t t = false := by
  have := zt_fst_f (zt_fst1 h) (t - (s + 1))
  rwa [show s + 1 + (t - (s + 1)) = t from by omega] at this
theorem zt_kin1 {G : Nat → Bool} {t : Nat} (h : zt_fst G t t = true) : zt_kin G (t + 1) = zt_kin G t + 1 := if_pos h
theorem zt_kin0 {G : Nat → Bool} {t : Nat} (h : zt_fst G t t = false) : zt_kin G (t + 1) = zt_kin G t := if_neg (by rw [h]; decide)
theorem zt_unr1 {G : Nat → Bool} {t s : Nat} (h : G (s * 16 + t) = false) (h2 : G (t * 16 + s) = false) : zt_unr G t (s + 1) = zt_unr G t s + 1 := if_pos ⟨h, h2⟩
theorem zt_unrA {G : Nat → Bool} {t s : Nat} (h : G (s * 16 + t) = true) : zt_unr G t (s + 1) = zt_unr G t s := if_neg (fun z => by rw [h] at z; exact absurd z.1 (by decide))
theorem zt_unrB {G : Nat → Bool} {t s : Nat} (h : G (t * 16 + s) = true) : zt_unr G t (s + 1) = zt_unr G t s := if_neg (fun z => by rw [h] at z; exact absurd z.2 (by decide))
theorem zt_msk1 {G : Nat → Bool} {t s : Nat} (h : G (s * 16 + t) = true) : zt_msk G t (s + 1) = (zt_msk G t s ||| ((1 : Int32) <<< (nI s &&& 31))) := if_pos h
theorem zt_msk0 {G : Nat → Bool} {t s : Nat} (h : G (s * 16 + t) = false) : zt_msk G t (s + 1) = zt_msk G t s := if_neg (by rw [h]; decide)
/-! numbers: an index of a pair, of a slot -/
theorem zt_pr {s t : Nat} (hs : s < 16) (ht : t < 16) : s * 16 + t < 256 := by omega
theorem zt_px (s t : Nat) : nI s * 16 + nI t = nI (s * 16 + t) := by
  show nI s * nI 16 + nI t = _
  rw [pk_mul, nI_add]
theorem zt_sx (s t : Nat) : nI s * 4 + nI t = nI (s * 4 + t) := by
  show nI s * nI 4 + nI t = _
  rw [pk_mul, nI_add]
theorem zt_x4 (s : Nat) : nI s * 4 = nI (s * 4) := pk_mul s 4
theorem zt_d16 {p : Nat} (h : p < 256) : nI p / 16 = nI (p / 16) := pk_div (d := 16) (by omega) (by decide) (by decide)
theorem zt_r16 {p : Nat} (h : p < 256) : nI p - nI p / 16 * 16 = nI (p % 16) := pk_rem (d := 16) (by omega) (by decide) (by decide)
theorem zt_pp {s t : Nat} (ht : t < 16) : (s * 16 + t) / 16 = s ∧ (s * 16 + t) % 16 = t := by omega
/-- an Int32 is no type, or a type -/
theorem zt_ty (x : Int32) : (x < 0 ∧ ¬ 0 ≤ x) ∨ (¬ x < 0 ∧ 0 ≤ x ∧ ¬ x < 16 ∧ 16 ≤ x ∧ 15 < x ∧ ¬ x ≤ 15) ∨ ∃ j : Nat, j < 16 ∧ x = nI j := by
  rcases pk_ix x (n := 16) (by decide) with h | h | h
  · exact Or.inl ⟨h, Int32.not_le.mpr h⟩
  · refine Or.inr (Or.inl ?_)
    have h16 : (16 : Int32) ≤ x := h
    have e16 : (16 : Int32).toInt = 16 := by decide
    have e15 : (15 : Int32).toInt = 15 := by decide
    have e0 : (0 : Int32).toInt = 0 := by decide
    simp only [Int32.le_iff_toInt_le, Int32.lt_iff_toInt_lt, e16, e15, e0] at h16 ⊢
    omega
  · exact Or.inr (Or.inr h)
end
section
/-! the component's rule against the pure one -/
theorem zx_ty {post : Int32 → Prop} {u : SX} {i : Nat} (hi : i < 16) (h : post 1) : wpX_isType post u (nI i) := by
  obtain ⟨a1, a2, a3, a4, a5, a6, a7⟩ := u
  exact br_f (nI_pos (by omega)) (br_f (nI_ge (b := 16) hi (by decide)) h)
theorem zx_tyN {post : Int32 → Prop} {u : SX} {x : Int32} (hx : x < 0 ∨ 16 ≤ x) (h : post 0) : wpX_isType post u x := by
  obtain ⟨a1, a2, a3, a4, a5, a6, a7⟩ := u
  by_cases z : x < 0
  · exact br_t z h
  · exact br_f z (br_t (hx.resolve_left z) h)
section
variable {sh ar rs pr op ft bl fl oq : Nat → Int32} {B : Nat → Bool}
theorem zx_bel {post : Int32 → Prop} {s t : Nat} (hs : s < 16) (ht : t < 16) (hB : zt_at bl B) (h : post (zt_i (B (s * 16 + t)))) : wpX_isBelow post (sh, ar, rs, pr, op, ft, bl) (nI s) (nI t) := by
  unfold wpX_isBelow
  dsimp only
  rw [zt_px, nI_clamp (n := s * 16 + t) (by omega), hB _ (zt_pr hs ht)]
  exact ⟨vp_in_nI (zt_pr hs ht) (by decide), zt_nar _, h⟩
theorem zx_rec1 {post : Int32 → Prop} {s t l n : Nat} (hs : s < 16) (ht : t < 16) (hl : l < 4) (es : sh s = 5) (et : sh t = 5) (hR : zt_R sh pr op ft fl oq) (hD : zt_D sh ar rs fl) (hB : zt_at bl B)
    (hT : zt_fo fl oq B (s * 4 + l) (t * 4 + l) = true → wX_recordRuleHolds_2 post (nI s) (nI t) sh ar rs pr op ft bl n (nI (l + 1)))
    (hF : zt_fo fl oq B (s * 4 + l) (t * 4 + l) = false → post 0) : wX_recordRuleHolds_2 post (nI s) (nI t) sh ar rs pr op ft bl (n + 1) (nI l) := by
  have ca : (nI (s * 4 + l)).toNatClampNeg = s * 4 + l := nI_clamp (by omega)
  have cb : (nI (t * 4 + l)).toNatClampNeg = t * 4 + l := nI_clamp (by omega)
  have ia : vp_in (nI (s * 4 + l)) 64 := vp_in_nI (by omega) (by decide)
  have ib : vp_in (nI (t * 4 + l)) 64 := vp_in_nI (by omega) (by decide)
  refine br_f (nI_ge (b := 4) hl (by decide)) (nm_r (zt_sx s l) (nm_r (zt_sx t l) ⟨ib, ?_⟩))
  simp only [ca, cb]
  rcases hR t l ht hl et with ⟨pt, f0⟩ | ⟨pt, tn, tt, ot⟩
  · exact br_t pt (nm_r (nI_1 l) (hT (by unfold zt_fo; rw [if_pos f0])))
  · refine br_f pt ⟨ia, ?_⟩
    rcases hR s l hs hl es with ⟨ps, f0⟩ | ⟨ps, sn, ss, os⟩
    · exact br_t ps (hF (by unfold zt_fo; rw [if_neg tn, if_pos f0]))
    · refine br_f ps ⟨ia, ?_⟩
      obtain ⟨a, ha, ea⟩ := (hD.2.2.2 (s * 4 + l) (by omega)).resolve_left sn
      obtain ⟨b, hb, eb⟩ := (hD.2.2.2 (t * 4 + l) (by omega)).resolve_left tn
      have h66 : ∀ c : ¬ (¬ oq (s * 4 + l) = 0 ∧ oq (t * 4 + l) = 0), wX_recordRuleHolds_66 post (wX_recordRuleHolds_2 post (nI s) (nI t) sh ar rs pr op ft bl n) (nI s) (nI t) (nI l) (nI (s * 4 + l)) (nI (t * 4 + l)) sh ar rs pr op ft bl := by
        intro c
        have e : zt_fo fl oq B (s * 4 + l) (t * 4 + l) = B (a * 16 + b) := by
          unfold zt_fo
          rw [if_neg tn, if_neg sn, if_neg c, ea, eb, nI_clamp (n := a) (by omega), nI_clamp (n := b) (by omega)]
        refine ⟨ia, ib, ?_⟩
        rw [ca, cb, ss, tt, ea, eb]
        refine zx_bel ha hb hB ?_
        cases q : B (a * 16 + b)
        · exact br_t rfl (hF (e.trans q))
        · exact br_f (by decide) (nm_r (nI_1 l) (hT (e.trans q)))
      rw [os, ot]
      refine br_c (fun c => h66 (fun z => z.1 c)) (fun c => ⟨ib, br_c (fun c2 => hF ?_) (fun c2 => h66 (fun z => c2 z.2))⟩)
      unfold zt_fo
      rw [if_neg tn, if_neg sn, if_pos ⟨c, c2⟩]
theorem zx_rec {post : Int32 → Prop} {s t : Nat} (hs : s < 16) (ht : t < 16) (es : sh s = 5) (et : sh t = 5) (hR : zt_R sh pr op ft fl oq) (hD : zt_D sh ar rs fl) (hB : zt_at bl B) (h : post (zt_i (zt_rc fl oq B s t))) : wpX_recordRuleHolds post (sh, ar, rs, pr, op, ft, bl) (nI s) (nI t) := by
  have hF : ∀ {b : Bool}, zt_rc fl oq B s t = false → post 0 := fun {b} e => by rw [e] at h; exact h
  have key : ∃ n : Nat, wX_recordRuleHolds_2 post (nI s) (nI t) sh ar rs pr op ft bl n (nI 0) := by
    refine ⟨5, zx_rec1 (l := 0) (n := 4) hs ht (by decide) es et hR hD hB (fun e0 => ?_) (fun e0 => ?_)⟩
    · refine zx_rec1 (l := 1) (n := 3) hs ht (by decide) es et hR hD hB (fun e1 => ?_) (fun e1 => ?_)
      · refine zx_rec1 (l := 2) (n := 2) hs ht (by decide) es et hR hD hB (fun e2 => ?_) (fun e2 => ?_)
        · refine zx_rec1 (l := 3) (n := 1) hs ht (by decide) es et hR hD hB (fun e3 => ?_) (fun e3 => ?_)
          · refine br_t (show (4 : Int32) ≤ nI (3 + 1) by decide) ?_
            have e : zt_rc fl oq B s t = true := by
              unfold zt_rc
              rw [show zt_fo fl oq B (s * 4) (t * 4) = true from e0, e1, e2, e3]; rfl
            rw [e] at h; exact h
          · exact hF (b := true) (by unfold zt_rc; rw [e3, Bool.and_false, Bool.and_false, Bool.and_false])
        · exact hF (b := true) (by unfold zt_rc; rw [e2, Bool.false_and, Bool.and_false, Bool.and_false])
      · exact hF (b := true) (by unfold zt_rc; rw [e1, Bool.false_and, Bool.and_false])
    · exact hF (b := true) (by unfold zt_rc; rw [show zt_fo fl oq B (s * 4) (t * 4) = false from e0, Bool.false_and])
  exact key
theorem zx_rule {post : Int32 → Prop} {s t : Nat} (hs : s < 16) (ht : t < 16) (hR : zt_R sh pr op ft fl oq) (hD : zt_D sh ar rs fl) (hB : zt_at bl B) (h : post (zt_i (zt_h sh ar rs fl oq B s t))) : wpX_ruleHolds post (sh, ar, rs, pr, op, ft, bl) (nI s) (nI t) := by
  have cs : (nI s).toNatClampNeg = s := nI_clamp (by omega)
  have ct : (nI t).toNatClampNeg = t := nI_clamp (by omega)
  have is : vp_in (nI s) 16 := vp_in_nI hs (by decide)
  have it : vp_in (nI t) 16 := vp_in_nI ht (by decide)
  have hv : ∀ b : Bool, zt_h sh ar rs fl oq B s t = b → post (zt_i b) := fun b e => by rw [e] at h; exact h
  unfold wpX_ruleHolds
  dsimp only
  simp only [cs, ct]
  refine ⟨it, br_c (fun c1 => hv true ?_) (fun c1 => ⟨is, br_c (fun c2 => hv true ?_) (fun c2 => ⟨is, it, br_c (fun c3 => ⟨is, br_c (fun c4 => ⟨it, is, ?_⟩) (fun c4 => ⟨is, br_c (fun c5 => ?_) (fun c5 => hv true ?_)⟩)⟩) (fun c3 => hv false ?_)⟩)⟩)⟩
  · unfold zt_h; rw [if_pos c1]
  · unfold zt_h; rw [if_neg c1, if_pos c2]
  · obtain ⟨a, ha, ea⟩ := hD.2.1 s hs
    obtain ⟨b, hb, eb⟩ := hD.2.1 t ht
    obtain ⟨c, hc, ec⟩ := hD.2.2.1 s hs
    obtain ⟨d, hd, ed⟩ := hD.2.2.1 t ht
    have e : zt_h sh ar rs fl oq B s t = (B (b * 16 + a) && B (c * 16 + d)) := by
      unfold zt_h
      rw [if_neg c1, if_neg c2, if_neg (not_not_intro c3), if_pos c4, ea, eb, ec, ed, nI_clamp (n := a) (by omega), nI_clamp (n := b) (by omega), nI_clamp (n := c) (by omega), nI_clamp (n := d) (by omega)]
    rw [ea, eb, ec, ed]
    refine zx_bel hb ha hB ?_
    cases q1 : B (b * 16 + a)
    · exact br_t rfl (hv false (by rw [e, q1, Bool.false_and]))
    · refine br_f (by decide) ⟨is, it, zx_bel hc hd hB ?_⟩
      cases q2 : B (c * 16 + d)
      · exact br_t rfl (hv false (by rw [e, q2, Bool.and_false]))
      · exact br_f (by decide) (hv true (by rw [e, q1, q2]; rfl))
  · have e : zt_h sh ar rs fl oq B s t = zt_rc fl oq B s t := by
      unfold zt_h
      rw [if_neg c1, if_neg c2, if_neg (not_not_intro c3), if_neg c4, if_pos c5]
    refine zx_rec hs ht c5 (c3.symm.trans c5) hR hD hB ?_
    cases q : zt_rc fl oq B s t
    · exact br_t rfl (hv false (e.trans q))
    · exact br_f (by decide) (hv true (e.trans q))
  · unfold zt_h; rw [if_neg c1, if_neg c2, if_neg (not_not_intro c3), if_neg c4, if_neg c5]
  · unfold zt_h; rw [if_neg c1, if_neg c2, if_pos c3]
end
end
section
/-! the component's settle: it ends with the pure relation in its array -/
theorem zt_256 {i : Nat} (h : i < 256) : ¬ (256 : Int32) ≤ nI i := nI_ge (b := 256) h (by decide)
section
variable {sh ar rs pr op ft fl oq : Nat → Int32}
theorem zx_in {post : SX → Prop} {J : Int32 → Int32 → (Nat → Int32) → (Nat → Int32) → (Nat → Int32) → (Nat → Int32) → (Nat → Int32) → (Nat → Int32) → (Nat → Int32) → Prop} {x2 : Int32} {B0 : Nat → Bool} (hR : zt_R sh pr op ft fl oq) (hD : zt_D sh ar rs fl)
    (hJ : ∀ bl' : Nat → Int32, zt_at bl' (zt_pass (zt_H sh ar rs fl oq) B0 256) → J (zt_i (zt_flag (zt_H sh ar rs fl oq) B0 256)) (x2 + 1) sh ar rs pr op ft bl') :
    ∀ (d i n : Nat) (bl : Nat → Int32), i + d = 256 → d < n → zt_at bl (zt_pass (zt_H sh ar rs fl oq) B0 i) → wX_settle_41 post J x2 n (zt_i (zt_flag (zt_H sh ar rs fl oq) B0 i)) (nI i) sh ar rs pr op ft bl := by
  intro d
  induction d with
  | zero =>
    intro i n bl e hn hb
    obtain ⟨m, rfl⟩ : ∃ m, n = m + 1 := ⟨n - 1, by omega⟩
    obtain rfl : i = 256 := by omega
    exact br_t (show (256 : Int32) ≤ nI 256 by decide) (nm_e (hJ bl hb))
  | succ d ih =>
    intro i n bl e hn hb
    obtain ⟨m, rfl⟩ : ∃ m, n = m + 1 := ⟨n - 1, by omega⟩
    have hi : i < 256 := by omega
    have ci : (nI i).toNatClampNeg = i := nI_clamp (by omega)
    have ii : vp_in (nI i) 256 := vp_in_nI hi (by decide)
    refine br_f (zt_256 hi) ⟨ii, ?_⟩
    rw [ci, hb i hi]
    cases q : zt_pass (zt_H sh ar rs fl oq) B0 i i
    · obtain ⟨h1, h2⟩ := zt_s0 hb q
      refine br_t rfl (nm_r (nI_1 i) ?_)
      have := ih (i + 1) m bl (by omega) (by omega) h1
      rw [h2] at this
      exact this
    · refine br_f (by decide) ⟨by decide, by decide, ?_⟩
      rw [zt_r16 hi, zt_d16 hi]
      refine zx_rule (by omega) (by omega) hR hD hb ?_
      cases q2 : zt_h sh ar rs fl oq (zt_pass (zt_H sh ar rs fl oq) B0 i) (i / 16) (i % 16)
      · obtain ⟨h1, h2⟩ := zt_s2 hb q q2
        refine br_t rfl ⟨ii, nm_r (e' := upd bl i 0) rfl (nm_r (nI_1 i) ?_)⟩
        have := ih (i + 1) m (upd bl i 0) (by omega) (by omega) h1
        rw [h2] at this
        exact this
      · obtain ⟨h1, h2⟩ := zt_s1 hb q q2
        refine br_f (by decide) (nm_r (nI_1 i) ?_)
        have := ih (i + 1) m bl (by omega) (by omega) h1
        rw [h2] at this
        exact this
theorem zx_out {post : SX → Prop} (hR : zt_R sh pr op ft fl oq) (hD : zt_D sh ar rs fl) :
    ∀ (k r n : Nat) (B0 : Nat → Bool) (bl : Nat → Int32), r + k = 257 → k + 1 < n → zt_at bl B0 → (∀ bl' : Nat → Int32, zt_at bl' (zt_rep (zt_H sh ar rs fl oq) k B0) → post (sh, ar, rs, pr, op, ft, bl')) → wX_settle_26 post n 1 (nI r) sh ar rs pr op ft bl := by
  intro k
  induction k with
  | zero =>
    intro r n B0 bl e hn hb hp
    obtain ⟨m, rfl⟩ : ∃ m, n = m + 1 := ⟨n - 1, by omega⟩
    obtain rfl : r = 257 := by omega
    exact br_f (by decide) (br_t (show (256 : Int32) < nI 257 by decide) (hp bl hb))
  | succ k ih =>
    intro r n B0 bl e hn hb hp
    obtain ⟨m, rfl⟩ : ∃ m, n = m + 2 := ⟨n - 2, by omega⟩
    refine br_f (by decide) (br_f (show ¬ (256 : Int32) < nI r from nI_nlt (a := 256) (b := r) (by omega) (by decide)) ⟨257, ?_⟩)
    refine zx_in (B0 := B0) hR hD (fun bl' hb' => ?_) 256 0 257 bl rfl (by decide) hb
    cases q : zt_flag (zt_H sh ar rs fl oq) B0 256
    · exact br_t rfl (hp bl' (by rw [zt_rep0 q]; exact hb'))
    · rw [nI_1]
      exact ih (r + 1) (m + 1) _ bl' (by omega) (by omega) hb' (fun b h => hp b (by rw [zt_rep1 q]; exact h))
theorem zx_fill {post : SX → Prop} (hk : ∀ bl' : Nat → Int32, zt_at bl' (fun _ => true) → ∃ n : Nat, wX_settle_26 post n 1 0 sh ar rs pr op ft bl') :
    ∀ (d i n : Nat) (bl : Nat → Int32), i + d = 256 → d < n → (∀ p, p < i → bl p = 1) → wX_settle_2 post n (nI i) sh ar rs pr op ft bl := by
  intro d
  induction d with
  | zero =>
    intro i n bl e hn hb
    obtain ⟨m, rfl⟩ : ∃ m, n = m + 1 := ⟨n - 1, by omega⟩
    obtain rfl : i = 256 := by omega
    exact br_t (show (256 : Int32) ≤ nI 256 by decide) (hk bl (fun p hp => hb p hp))
  | succ d ih =>
    intro i n bl e hn hb
    obtain ⟨m, rfl⟩ : ∃ m, n = m + 1 := ⟨n - 1, by omega⟩
    have hi : i < 256 := by omega
    have ci : (nI i).toNatClampNeg = i := nI_clamp (by omega)
    refine br_f (zt_256 hi) ⟨vp_in_nI hi (by decide), nm_r (e' := upd bl i 1) (by rw [ci]; rfl) (nm_r (nI_1 i) ?_)⟩
    refine ih (i + 1) m (upd bl i 1) (by omega) (by omega) (fun p hp => ?_)
    by_cases z : p = i
    · rw [z, pk_us]
    · rw [pk_un z]; exact hb p (by omega)
theorem zx_settle {post : SX → Prop} {bl : Nat → Int32} (hR : zt_R sh pr op ft fl oq) (hD : zt_D sh ar rs fl) (hp : ∀ bl' : Nat → Int32, zt_at bl' (zt_G (zt_H sh ar rs fl oq)) → post (sh, ar, rs, pr, op, ft, bl')) : wpX_settle post (sh, ar, rs, pr, op, ft, bl) := by
  have key : ∃ n : Nat, wX_settle_2 post n (nI 0) sh ar rs pr op ft bl := by
    refine ⟨257, zx_fill (fun bl' hb' => ⟨259, ?_⟩) 256 0 257 bl rfl (by decide) (fun p hp => absurd hp (Nat.not_lt_zero p))⟩
    exact zx_out hR hD 257 0 259 (fun _ => true) bl' rfl (by decide) hb' hp
  exact key
end
end
section
/-! the reference's rule and its strike, against the same pure picture -/
theorem zy_bad {post : Int32 → Prop} {u : SY} {i : Nat} (hi : i < 16) (h : post 0) : wpY_bad post u (nI i) := by
  obtain ⟨a1, a2, a3, a4, a5, a6, a7⟩ := u
  exact br_f (nI_pos (by omega)) (br_t (show nI i ≤ (15 : Int32) from nI_le (b := 15) (by omega) (by decide)) h)
theorem zy_badN {post : Int32 → Prop} {u : SY} {x : Int32} (hx : x < 0 ∨ 16 ≤ x) (h : post 1) : wpY_bad post u x := by
  obtain ⟨a1, a2, a3, a4, a5, a6, a7⟩ := u
  by_cases z : x < 0
  · exact br_t z h
  · have h16 := hx.resolve_left z
    have n15 : ¬ x ≤ 15 := by
      have e16 : (16 : Int32).toInt = 16 := by decide
      have e15 : (15 : Int32).toInt = 15 := by decide
      rw [Int32.le_iff_toInt_le] at h16 ⊢
      omega
    exact br_f z (br_f n15 h)
section
variable {kn : Int32} {sh ar rs fl oq bw : Nat → Int32} {B : Nat → Bool}
theorem zy_fo {post : Int32 → Prop} {a b : Nat} (ha : a < 64) (hb : b < 64) (hD : zt_D sh ar rs fl) (hB : zt_at bw B) (h : post (zt_i (zt_fo fl oq B a b))) : wpY_fieldOk post (kn, sh, ar, rs, fl, oq, bw) (nI a) (nI b) := by
  have ca : (nI a).toNatClampNeg = a := nI_clamp (by omega)
  have cb : (nI b).toNatClampNeg = b := nI_clamp (by omega)
  have ia : vp_in (nI a) 64 := vp_in_nI ha (by decide)
  have ib : vp_in (nI b) 64 := vp_in_nI hb (by decide)
  have hv : ∀ r : Bool, zt_fo fl oq B a b = r → post (zt_i r) := fun r e => by rw [e] at h; exact h
  unfold wpY_fieldOk
  dsimp only
  simp only [ca, cb]
  refine ⟨ib, ?_⟩
  rcases hD.2.2.2 b hb with fb | ⟨j, hj, ej⟩
  · exact br_f (Int32.not_le.mpr fb) (hv true (by unfold zt_fo; rw [if_pos fb]))
  · have nb : ¬ fl b < 0 := by rw [ej]; exact nI_pos (by omega)
    refine br_t (Int32.not_lt.mp nb) ⟨ia, ?_⟩
    rcases hD.2.2.2 a ha with fa | ⟨i, hi, ei⟩
    · exact br_t fa (hv false (by unfold zt_fo; rw [if_neg nb, if_pos fa]))
    · have na : ¬ fl a < 0 := by rw [ei]; exact nI_pos (by omega)
      refine br_f na ⟨ia, ?_⟩
      have h40 : ∀ c : ¬ (¬ oq a = 0 ∧ oq b = 0), wY_fieldOk_40 post (nI a) (nI b) kn sh ar rs fl oq bw := by
        intro c
        have e : zt_fo fl oq B a b = B (i * 16 + j) := by
          unfold zt_fo
          rw [if_neg nb, if_neg na, if_neg c, ei, ej, nI_clamp (n := i) (by omega), nI_clamp (n := j) (by omega)]
        unfold wY_fieldOk_40
        rw [ca, cb, ei, ej, zt_px, nI_clamp (n := i * 16 + j) (by omega), hB _ (zt_pr hi hj)]
        exact ⟨ia, ib, vp_in_nI (zt_pr hi hj) (by decide), zt_nar _, hv _ e⟩
      refine br_c (fun c => h40 (fun z => z.1 c)) (fun c => ⟨ib, br_c (fun c2 => hv false ?_) (fun c2 => h40 (fun z => c2 z.2))⟩)
      unfold zt_fo
      rw [if_neg nb, if_neg na, if_pos ⟨c, c2⟩]
theorem zy_rec {post : Int32 → Prop} {s t : Nat} (hs : s < 16) (ht : t < 16) (hD : zt_D sh ar rs fl) (hB : zt_at bw B) (h : post (zt_i (zt_rc fl oq B s t))) :
    wpY_fieldOk (fun r1 => (r1 = 0 → post 0) ∧ (¬ r1 = 0 → wpY_fieldOk (fun r2 => (r2 = 0 → post 0) ∧ (¬ r2 = 0 → wpY_fieldOk (fun r3 => (r3 = 0 → post 0) ∧ (¬ r3 = 0 → wpY_fieldOk (fun r4 => (r4 = 0 → post 0) ∧ (¬ r4 = 0 → post 1)) (kn, sh, ar, rs, fl, oq, bw) (nI s * 4 + 3) (nI t * 4 + 3))) (kn, sh, ar, rs, fl, oq, bw) (nI s * 4 + 2) (nI t * 4 + 2))) (kn, sh, ar, rs, fl, oq, bw) (nI s * 4 + 1) (nI t * 4 + 1))) (kn, sh, ar, rs, fl, oq, bw) (nI s * 4) (nI t * 4) := by
  have hv : ∀ r : Bool, zt_rc fl oq B s t = r → post (zt_i r) := fun r e => by rw [e] at h; exact h
  have m1 : ∀ x : Nat, nI x * 4 + 1 = nI (x * 4 + 1) := fun x => zt_sx x 1
  have m2 : ∀ x : Nat, nI x * 4 + 2 = nI (x * 4 + 2) := fun x => zt_sx x 2
  have m3 : ∀ x : Nat, nI x * 4 + 3 = nI (x * 4 + 3) := fun x => zt_sx x 3
  rw [m1 s, m1 t, m2 s, m2 t, m3 s, m3 t, zt_x4 s, zt_x4 t]
  refine zy_fo (by omega) (by omega) hD hB ?_
  cases q0 : zt_fo fl oq B (s * 4) (t * 4)
  · exact br_t rfl (hv false (by unfold zt_rc; rw [q0, Bool.false_and]))
  refine br_f (by decide) (zy_fo (by omega) (by omega) hD hB ?_)
  cases q1 : zt_fo fl oq B (s * 4 + 1) (t * 4 + 1)
  · exact br_t rfl (hv false (by unfold zt_rc; rw [q1, Bool.false_and, Bool.and_false]))
  refine br_f (by decide) (zy_fo (by omega) (by omega) hD hB ?_)
  cases q2 : zt_fo fl oq B (s * 4 + 2) (t * 4 + 2)
  · exact br_t rfl (hv false (by unfold zt_rc; rw [q2, Bool.false_and, Bool.and_false, Bool.and_false]))
  refine br_f (by decide) (zy_fo (by omega) (by omega) hD hB ?_)
  cases q3 : zt_fo fl oq B (s * 4 + 3) (t * 4 + 3)
  · exact br_t rfl (hv false (by unfold zt_rc; rw [q3, Bool.and_false, Bool.and_false, Bool.and_false]))
  · exact br_f (by decide) (hv true (by unfold zt_rc; rw [q0, q1, q2, q3]; rfl))
theorem zy_rule {post : Int32 → Prop} {s t : Nat} (hs : s < 16) (ht : t < 16) (hD : zt_D sh ar rs fl) (hB : zt_at bw B) (h : post (zt_i (zt_h sh ar rs fl oq B s t))) : wpY_holds post (kn, sh, ar, rs, fl, oq, bw) (nI s) (nI t) := by
  have cs : (nI s).toNatClampNeg = s := nI_clamp (by omega)
  have ct : (nI t).toNatClampNeg = t := nI_clamp (by omega)
  have is : vp_in (nI s) 16 := vp_in_nI hs (by decide)
  have it : vp_in (nI t) 16 := vp_in_nI ht (by decide)
  have hv : ∀ b : Bool, zt_h sh ar rs fl oq B s t = b → post (zt_i b) := fun b e => by rw [e] at h; exact h
  unfold wpY_holds
  dsimp only
  simp only [cs, ct]
  refine ⟨it, br_c (fun c1 => hv true ?_) (fun c1 => ⟨is, br_c (fun c2 => hv true ?_) (fun c2 => ⟨is, it, br_c (fun c3 => ⟨is, br_c (fun c4 => ⟨it, is, ?_⟩) (fun c4 => ⟨is, br_c (fun c5 => ?_) (fun c5 => ⟨is, ?_⟩)⟩)⟩) (fun c3 => hv false ?_)⟩)⟩)⟩
  · unfold zt_h; rw [if_pos c1]
  · unfold zt_h; rw [if_neg c1, if_pos c2]
  · obtain ⟨a, ha, ea⟩ := hD.2.1 s hs
    obtain ⟨b, hb, eb⟩ := hD.2.1 t ht
    obtain ⟨c, hc, ec⟩ := hD.2.2.1 s hs
    obtain ⟨d, hd, ed⟩ := hD.2.2.1 t ht
    have e : zt_h sh ar rs fl oq B s t = (B (b * 16 + a) && B (c * 16 + d)) := by
      unfold zt_h
      rw [if_neg c1, if_neg c2, if_neg (not_not_intro c3), if_pos c4, ea, eb, ec, ed, nI_clamp (n := a) (by omega), nI_clamp (n := b) (by omega), nI_clamp (n := c) (by omega), nI_clamp (n := d) (by omega)]
    rw [ea, eb, ec, ed, zt_px b a, zt_px c d, nI_clamp (n := b * 16 + a) (by omega), nI_clamp (n := c * 16 + d) (by omega), hB _ (zt_pr hb ha), hB _ (zt_pr hc hd)]
    refine ⟨vp_in_nI (zt_pr hb ha) (by decide), ?_⟩
    cases q1 : B (b * 16 + a)
    · exact br_t rfl (hv false (by rw [e, q1, Bool.false_and]))
    · refine br_f (by decide) ⟨is, it, vp_in_nI (zt_pr hc hd) (by decide), ?_⟩
      cases q2 : B (c * 16 + d)
      · exact br_t rfl (hv false (by rw [e, q2, Bool.and_false]))
      · exact br_f (by decide) (hv true (by rw [e, q1, q2]; rfl))
  · have e : zt_h sh ar rs fl oq B s t = zt_rc fl oq B s t := by
      unfold zt_h
      rw [if_neg c1, if_neg c2, if_neg (not_not_intro c3), if_neg c4, if_pos c5]
    rw [e] at h
    exact zy_rec hs ht hD hB h
  · have e : zt_h sh ar rs fl oq B s t = true := by
      unfold zt_h; rw [if_neg c1, if_neg c2, if_neg (not_not_intro c3), if_neg c4, if_neg c5]
    have h01 : sh s = 0 ∨ sh s = 1 := by
      obtain ⟨j, hj, ej⟩ := hD.1 s hs
      have hj' : j = 0 ∨ j = 1 ∨ j = 2 ∨ j = 3 ∨ j = 4 ∨ j = 5 := by omega
      rcases hj' with rfl | rfl | rfl | rfl | rfl | rfl
      · exact Or.inl ej
      · exact Or.inr ej
      · exact absurd (c3.symm.trans ej) c1
      · exact absurd ej c2
      · exact absurd ej c4
      · exact absurd ej c5
    exact br_c (fun _ => hv true e) (fun c6 => ⟨is, br_t (h01.resolve_left c6) (hv true e)⟩)
  · unfold zt_h; rw [if_neg c1, if_neg c2, if_pos c3]
end
section
variable {kn : Int32} {sh ar rs fl oq : Nat → Int32}
theorem zy_in {post : SY → Prop} {J : Int32 → Int32 → (Nat → Int32) → (Nat → Int32) → (Nat → Int32) → (Nat → Int32) → (Nat → Int32) → (Nat → Int32) → Prop} {x2 : Int32} {B0 : Nat → Bool} (hD : zt_D sh ar rs fl)
    (hJ : ∀ bw' : Nat → Int32, zt_at bw' (zt_pass (zt_H sh ar rs fl oq) B0 256) → J (zt_i (zt_flag (zt_H sh ar rs fl oq) B0 256)) (x2 + 1) sh ar rs fl oq bw') :
    ∀ (d i n : Nat) (bw : Nat → Int32), i + d = 256 → d < n → zt_at bw (zt_pass (zt_H sh ar rs fl oq) B0 i) → wY_strike_54 post J x2 kn n (zt_i (zt_flag (zt_H sh ar rs fl oq) B0 i)) (nI i) sh ar rs fl oq bw := by
  intro d
  induction d with
  | zero =>
    intro i n bw e hn hb
    obtain ⟨m, rfl⟩ : ∃ m, n = m + 1 := ⟨n - 1, by omega⟩
    obtain rfl : i = 256 := by omega
    exact br_t (show (256 : Int32) ≤ nI 256 by decide) (nm_e (hJ bw hb))
  | succ d ih =>
    intro i n bw e hn hb
    obtain ⟨m, rfl⟩ : ∃ m, n = m + 1 := ⟨n - 1, by omega⟩
    have hi : i < 256 := by omega
    have ci : (nI i).toNatClampNeg = i := nI_clamp (by omega)
    have ii : vp_in (nI i) 256 := vp_in_nI hi (by decide)
    refine br_f (zt_256 hi) ⟨ii, ?_⟩
    rw [ci, hb i hi]
    cases q : zt_pass (zt_H sh ar rs fl oq) B0 i i
    · obtain ⟨h1, h2⟩ := zt_s0 hb q
      refine br_t rfl (nm_r (nI_1 i) ?_)
      have := ih (i + 1) m bw (by omega) (by omega) h1
      rw [h2] at this
      exact this
    · refine br_f (by decide) ⟨by decide, by decide, ?_⟩
      rw [zt_r16 hi, zt_d16 hi]
      refine zy_rule (by omega) (by omega) hD hb ?_
      cases q2 : zt_h sh ar rs fl oq (zt_pass (zt_H sh ar rs fl oq) B0 i) (i / 16) (i % 16)
      · obtain ⟨h1, h2⟩ := zt_s2 hb q q2
        refine br_t rfl ⟨ii, nm_r (e' := upd bw i 0) rfl (nm_r (nI_1 i) ?_)⟩
        have := ih (i + 1) m (upd bw i 0) (by omega) (by omega) h1
        rw [h2] at this
        exact this
      · obtain ⟨h1, h2⟩ := zt_s1 hb q q2
        refine br_f (by decide) (nm_r (nI_1 i) ?_)
        have := ih (i + 1) m bw (by omega) (by omega) h1
        rw [h2] at this
        exact this
theorem zy_out {post : SY → Prop} (hD : zt_D sh ar rs fl) :
    ∀ (k r n : Nat) (B0 : Nat → Bool) (bw : Nat → Int32), r + k = 257 → k + 1 < n → zt_at bw B0 → (∀ bw' : Nat → Int32, zt_at bw' (zt_rep (zt_H sh ar rs fl oq) k B0) → post (kn, sh, ar, rs, fl, oq, bw')) → wY_strike_39 post kn n 1 (nI r) sh ar rs fl oq bw := by
  intro k
  induction k with
  | zero =>
    intro r n B0 bw e hn hb hp
    obtain ⟨m, rfl⟩ : ∃ m, n = m + 1 := ⟨n - 1, by omega⟩
    obtain rfl : r = 257 := by omega
    exact br_t (show (257 : Int32) ≤ nI 257 by decide) (hp bw hb)
  | succ k ih =>
    intro r n B0 bw e hn hb hp
    obtain ⟨m, rfl⟩ : ∃ m, n = m + 2 := ⟨n - 2, by omega⟩
    refine br_f (show ¬ (257 : Int32) ≤ nI r from nI_ge (b := 257) (by omega) (by decide)) (br_f (by decide) ⟨257, ?_⟩)
    refine zy_in (B0 := B0) hD (fun bw' hb' => ?_) 256 0 257 bw rfl (by decide) hb
    rw [nI_1]
    cases q : zt_flag (zt_H sh ar rs fl oq) B0 256
    · have hp' : post (kn, sh, ar, rs, fl, oq, bw') := hp bw' (by rw [zt_rep0 q]; exact hb')
      exact br_c (fun _ => hp') (fun _ => br_t rfl hp')
    · exact ih (r + 1) (m + 1) _ bw' (by omega) (by omega) hb' (fun b h => hp b (by rw [zt_rep1 q]; exact h))
theorem zy_fill {post : SY → Prop} (hk : ∀ bw' : Nat → Int32, zt_at bw' (fun _ => true) → ∃ n : Nat, wY_strike_39 post kn n 1 0 sh ar rs fl oq bw') :
    ∀ (d i n : Nat) (bw : Nat → Int32), i + d = 256 → d < n → (∀ p, p < i → bw p = 1) → wY_strike_15 post kn n (nI i) sh ar rs fl oq bw := by
  intro d
  induction d with
  | zero =>
    intro i n bw e hn hb
    obtain ⟨m, rfl⟩ : ∃ m, n = m + 1 := ⟨n - 1, by omega⟩
    obtain rfl : i = 256 := by omega
    exact br_t (show (256 : Int32) ≤ nI 256 by decide) (hk bw (fun p hp => hb p hp))
  | succ d ih =>
    intro i n bw e hn hb
    obtain ⟨m, rfl⟩ : ∃ m, n = m + 1 := ⟨n - 1, by omega⟩
    have hi : i < 256 := by omega
    have ci : (nI i).toNatClampNeg = i := nI_clamp (by omega)
    refine br_f (zt_256 hi) ⟨vp_in_nI hi (by decide), nm_r (e' := upd bw i 1) (by rw [ci]; rfl) (nm_r (nI_1 i) ?_)⟩
    refine ih (i + 1) m (upd bw i 1) (by omega) (by omega) (fun p hp => ?_)
    by_cases z : p = i
    · rw [z, pk_us]
    · rw [pk_un z]; exact hb p (by omega)
/-- the state keeps the relation, if it calls it known -/
def zt_K (kn : Int32) (bw : Nat → Int32) (G : Nat → Bool) : Prop := ¬ kn = 0 → zt_at bw G
theorem zy_strike {post : SY → Prop} {bw : Nat → Int32} (hD : zt_D sh ar rs fl) (hK : zt_K kn bw (zt_G (zt_H sh ar rs fl oq))) (hp : ∀ (kn' : Int32) (bw' : Nat → Int32), zt_at bw' (zt_G (zt_H sh ar rs fl oq)) → post (kn', sh, ar, rs, fl, oq, bw')) : wpY_strike post (kn, sh, ar, rs, fl, oq, bw) := by
  have key : ∃ n : Nat, wY_strike_15 post 1 n (nI 0) sh ar rs fl oq bw := by
    refine ⟨257, zy_fill (fun bw' hb' => ⟨259, ?_⟩) 256 0 257 bw rfl (by decide) (fun p hp => absurd hp (Nat.not_lt_zero p))⟩
    exact zy_out hD 257 0 259 (fun _ => true) bw' rfl (by decide) hb' (fun b h => hp 1 b h)
  exact br_c (fun _ => key) (fun z => hp kn bw (hK z))
theorem zy_sub {post : Int32 → SY → Prop} {bw : Nat → Int32} {s t : Nat} (hs : s < 16) (ht : t < 16) (hD : zt_D sh ar rs fl) (hK : zt_K kn bw (zt_G (zt_H sh ar rs fl oq))) (hp : ∀ (kn' : Int32) (bw' : Nat → Int32), zt_K kn' bw' (zt_G (zt_H sh ar rs fl oq)) → post (zt_i (zt_G (zt_H sh ar rs fl oq) (s * 16 + t))) (kn', sh, ar, rs, fl, oq, bw')) : wpY_subtype post (kn, sh, ar, rs, fl, oq, bw) (nI s) (nI t) := by
  unfold wpY_subtype
  dsimp only
  refine zy_bad hs (br_t rfl (zy_bad ht (br_t rfl (zy_strike hD hK (fun kn' bw' hb => ?_)))))
  dsimp only
  rw [zt_px, nI_clamp (n := s * 16 + t) (by omega), hb _ (zt_pr hs ht)]
  exact ⟨vp_in_nI (zt_pr hs ht) (by decide), zt_nar _, hp kn' bw' (fun _ => hb)⟩
theorem zy_eqv {post : Int32 → SY → Prop} {bw : Nat → Int32} {s t : Nat} (hs : s < 16) (ht : t < 16) (hD : zt_D sh ar rs fl) (hK : zt_K kn bw (zt_G (zt_H sh ar rs fl oq))) (hp : ∀ (kn' : Int32) (bw' : Nat → Int32), zt_K kn' bw' (zt_G (zt_H sh ar rs fl oq)) → post (zt_i (zt_eqv (zt_G (zt_H sh ar rs fl oq)) s t)) (kn', sh, ar, rs, fl, oq, bw')) : wpY_equivalent post (kn, sh, ar, rs, fl, oq, bw) (nI s) (nI t) := by
  unfold wpY_equivalent
  dsimp only
  refine zy_sub hs ht hD hK (fun k1 b1 h1 => ?_)
  dsimp only
  cases q1 : zt_G (zt_H sh ar rs fl oq) (s * 16 + t)
  · have e : zt_eqv (zt_G (zt_H sh ar rs fl oq)) s t = false := by unfold zt_eqv; rw [q1, Bool.false_and]
    have := hp k1 b1 h1
    rw [e] at this
    exact br_t rfl this
  refine br_f (by decide) (zy_sub ht hs hD h1 (fun k2 b2 h2 => ?_))
  dsimp only
  have := hp k2 b2 h2
  cases q2 : zt_G (zt_H sh ar rs fl oq) (t * 16 + s)
  · have e : zt_eqv (zt_G (zt_H sh ar rs fl oq)) s t = false := by unfold zt_eqv; rw [q2, Bool.and_false]
    rw [e] at this
    exact br_t rfl this
  · have e : zt_eqv (zt_G (zt_H sh ar rs fl oq)) s t = true := by unfold zt_eqv; rw [q1, q2]; rfl
    rw [e] at this
    exact br_f (by decide) this
end
end
section
/-! the calls that ask: masks and counts over the relation, on both sides -/
theorem zt_tz (x : Int32) : (x < 0 ∨ 16 ≤ x) ∨ ∃ j : Nat, j < 16 ∧ x = nI j := by
  rcases pk_ix x (n := 16) (by decide) with h | h | h
  · exact Or.inl (Or.inl h)
  · exact Or.inl (Or.inr h)
  · exact Or.inr h
theorem zt_16 {i : Nat} (h : i < 16) : ¬ (16 : Int32) ≤ nI i := nI_ge (b := 16) h (by decide)
theorem zt_16e : (16 : Int32) ≤ nI 16 := nI_le (a := 16) (b := 16) (Nat.le_refl _) (by decide)
section
variable {sh ar rs pr op ft bl : Nat → Int32} {G : Nat → Bool}
theorem zx_msk {post : Int32 → SX → Prop} {t : Nat} (ht : t < 16) (hB : zt_at bl G) (hp : post (zt_msk G t 16) (sh, ar, rs, pr, op, ft, bl)) :
    ∀ (d s n : Nat), s + d = 16 → d < n → wX_subtypes_18 post (nI t) sh ar rs pr op ft bl n (zt_msk G t s) (nI s) := by
  intro d
  induction d with
  | zero =>
    intro s n e hn
    obtain ⟨m, rfl⟩ : ∃ m, n = m + 1 := ⟨n - 1, by omega⟩
    obtain rfl : s = 16 := by omega
    exact br_t zt_16e hp
  | succ d ih =>
    intro s n e hn
    obtain ⟨m, rfl⟩ : ∃ m, n = m + 1 := ⟨n - 1, by omega⟩
    have hs : s < 16 := by omega
    have hh := ih (s + 1) m (by omega) (by omega)
    refine br_f (zt_16 hs) (zx_bel hs ht hB ?_)
    cases q : G (s * 16 + t)
    · rw [zt_msk0 q] at hh
      exact br_t rfl (nm_r (nI_1 s) hh)
    · exact br_f (by decide) (nm_r (zt_msk1 q).symm (nm_r (nI_1 s) hh))
theorem zx_fsl {post : Int32 → Prop} {t : Nat} (ht : t < 16) (hB : zt_at bl G) (hp : post (zt_i (zt_fst G t t))) :
    ∀ (d s n : Nat), s + d = t → d < n → zt_fst G t s = true → wX_isFirstOfItsKind_2 post (nI t) sh ar rs pr op ft bl n (nI s) := by
  intro d
  induction d with
  | zero =>
    intro s n e hn hf
    obtain ⟨m, rfl⟩ : ∃ m, n = m + 1 := ⟨n - 1, by omega⟩
    obtain rfl : s = t := by omega
    rw [hf] at hp
    exact br_t (nI_le (Nat.le_refl _) (by omega)) hp
  | succ d ih =>
    intro s n e hn hf
    obtain ⟨m, rfl⟩ : ∃ m, n = m + 1 := ⟨n - 1, by omega⟩
    have hs : s < 16 := by omega
    refine br_f (nI_ge (by omega) (by omega)) (zx_bel hs ht hB ?_)
    cases q1 : G (s * 16 + t)
    · have e1 : zt_eqv G s t = false := by unfold zt_eqv; rw [q1, Bool.false_and]
      exact br_t rfl (nm_r (nI_1 s) (ih (s + 1) m (by omega) (by omega) (by rw [zt_fst0 e1]; exact hf)))
    refine br_f (by decide) (zx_bel ht hs hB ?_)
    cases q2 : G (t * 16 + s)
    · have e1 : zt_eqv G s t = false := by unfold zt_eqv; rw [q2, Bool.and_false]
      exact br_t rfl (nm_r (nI_1 s) (ih (s + 1) m (by omega) (by omega) (by rw [zt_fst0 e1]; exact hf)))
    · have e1 : zt_eqv G s t = true := by unfold zt_eqv; rw [q1, q2]; rfl
      rw [zt_fstx (by omega) e1] at hp
      exact br_f (by decide) hp
theorem zx_fst {post : Int32 → Prop} {t : Nat} (ht : t < 16) (hB : zt_at bl G) (hp : post (zt_i (zt_fst G t t))) : wpX_isFirstOfItsKind post (sh, ar, rs, pr, op, ft, bl) (nI t) := by
  have key : ∃ n : Nat, wX_isFirstOfItsKind_2 post (nI t) sh ar rs pr op ft bl n (nI 0) := ⟨t + 1, zx_fsl ht hB hp t 0 (t + 1) (by omega) (by omega) rfl⟩
  exact key
theorem zx_kin {post : Int32 → SX → Prop} (hB : zt_at bl G) (hp : post (nI (zt_kin G 16)) (sh, ar, rs, pr, op, ft, bl)) :
    ∀ (d t n : Nat), t + d = 16 → d < n → wX_kinds_8 post sh ar rs pr op ft bl n (nI (zt_kin G t)) (nI t) := by
  intro d
  induction d with
  | zero =>
    intro t n e hn
    obtain ⟨m, rfl⟩ : ∃ m, n = m + 1 := ⟨n - 1, by omega⟩
    obtain rfl : t = 16 := by omega
    exact br_t zt_16e hp
  | succ d ih =>
    intro t n e hn
    obtain ⟨m, rfl⟩ : ∃ m, n = m + 1 := ⟨n - 1, by omega⟩
    have ht : t < 16 := by omega
    have hh := ih (t + 1) m (by omega) (by omega)
    refine br_f (zt_16 ht) (zx_fst ht hB ?_)
    cases q : zt_fst G t t
    · rw [zt_kin0 q] at hh
      exact br_t rfl (nm_r (nI_1 t) hh)
    · refine br_f (by decide) (nm_r (e' := nI (zt_kin G (t + 1))) ?_ (nm_r (nI_1 t) hh))
      rw [zt_kin1 q, nI_1]
theorem zx_unr {post : Int32 → SX → Prop} {J : Int32 → Int32 → Prop} {t : Nat} (ht : t < 16) (hB : zt_at bl G) (hJ : J (nI (zt_una G (t + 1))) (nI (t + 1))) :
    ∀ (d s n : Nat), s + d = t → d < n → wX_unrelated_16 post J (nI t) sh ar rs pr op ft bl n (nI (zt_una G t + zt_unr G t s)) (nI s) := by
  intro d
  induction d with
  | zero =>
    intro s n e hn
    obtain ⟨m, rfl⟩ : ∃ m, n = m + 1 := ⟨n - 1, by omega⟩
    obtain rfl : s = t := by omega
    exact br_t (nI_le (Nat.le_refl _) (by omega)) (nm_r (nI_1 s) hJ)
  | succ d ih =>
    intro s n e hn
    obtain ⟨m, rfl⟩ : ∃ m, n = m + 1 := ⟨n - 1, by omega⟩
    have hs : s < 16 := by omega
    have hh := ih (s + 1) m (by omega) (by omega)
    refine br_f (nI_ge (by omega) (by omega)) (zx_bel hs ht hB ?_)
    cases q1 : G (s * 16 + t)
    · refine br_t rfl (zx_bel ht hs hB ?_)
      cases q2 : G (t * 16 + s)
      · refine br_t rfl (nm_r (e' := nI (zt_una G t + zt_unr G t (s + 1))) ?_ (nm_r (nI_1 s) hh))
        rw [zt_unr1 q1 q2, nI_1, Nat.add_assoc]
      · rw [zt_unrB q2] at hh
        exact br_f (by decide) (nm_r (nI_1 s) hh)
    · rw [zt_unrA q1] at hh
      exact br_f (by decide) (nm_r (nI_1 s) hh)
theorem zx_una {post : Int32 → SX → Prop} (hB : zt_at bl G) (hp : post (nI (zt_una G 16)) (sh, ar, rs, pr, op, ft, bl)) :
    ∀ (d t n : Nat), t + d = 16 → d < n → wX_unrelated_8 post sh ar rs pr op ft bl n (nI (zt_una G t)) (nI t) := by
  intro d
  induction d with
  | zero =>
    intro t n e hn
    obtain ⟨m, rfl⟩ : ∃ m, n = m + 1 := ⟨n - 1, by omega⟩
    obtain rfl : t = 16 := by omega
    exact br_t zt_16e hp
  | succ d ih =>
    intro t n e hn
    obtain ⟨m, rfl⟩ : ∃ m, n = m + 1 := ⟨n - 1, by omega⟩
    have ht : t < 16 := by omega
    exact br_f (zt_16 ht) ⟨t + 1, zx_unr ht hB (ih (t + 1) m (by omega) (by omega)) t 0 (t + 1) (by omega) (by omega)⟩
end
section
variable {sh ar rs fl oq : Nat → Int32} {G : Nat → Bool}
theorem zy_subG {post : Int32 → SY → Prop} {kn : Int32} {bw : Nat → Int32} {s t : Nat} (hG : G = zt_G (zt_H sh ar rs fl oq)) (hs : s < 16) (ht : t < 16) (hD : zt_D sh ar rs fl) (hK : zt_K kn bw G) (hp : ∀ (kn' : Int32) (bw' : Nat → Int32), zt_K kn' bw' G → post (zt_i (G (s * 16 + t))) (kn', sh, ar, rs, fl, oq, bw')) : wpY_subtype post (kn, sh, ar, rs, fl, oq, bw) (nI s) (nI t) := by
  subst hG
  exact zy_sub hs ht hD hK hp
theorem zy_eqvG {post : Int32 → SY → Prop} {kn : Int32} {bw : Nat → Int32} {s t : Nat} (hG : G = zt_G (zt_H sh ar rs fl oq)) (hs : s < 16) (ht : t < 16) (hD : zt_D sh ar rs fl) (hK : zt_K kn bw G) (hp : ∀ (kn' : Int32) (bw' : Nat → Int32), zt_K kn' bw' G → post (zt_i (zt_eqv G s t)) (kn', sh, ar, rs, fl, oq, bw')) : wpY_equivalent post (kn, sh, ar, rs, fl, oq, bw) (nI s) (nI t) := by
  subst hG
  exact zy_eqv hs ht hD hK hp
theorem zy_msk {post : Int32 → SY → Prop} {t : Nat} (hG : G = zt_G (zt_H sh ar rs fl oq)) (hD : zt_D sh ar rs fl) (ht : t < 16) (hp : ∀ (kn' : Int32) (bw' : Nat → Int32), zt_K kn' bw' G → post (zt_msk G t 16) (kn', sh, ar, rs, fl, oq, bw')) :
    ∀ (d s n : Nat) (kn : Int32) (bw : Nat → Int32), s + d = 16 → d < n → zt_K kn bw G → wY_subtypes_14 post (nI t) n (zt_msk G t s) (nI s) kn sh ar rs fl oq bw := by
  intro d
  induction d with
  | zero =>
    intro s n kn bw e hn hK
    obtain ⟨m, rfl⟩ : ∃ m, n = m + 1 := ⟨n - 1, by omega⟩
    obtain rfl : s = 16 := by omega
    exact br_t zt_16e (hp kn bw hK)
  | succ d ih =>
    intro s n kn bw e hn hK
    obtain ⟨m, rfl⟩ : ∃ m, n = m + 1 := ⟨n - 1, by omega⟩
    have hs : s < 16 := by omega
    refine br_f (zt_16 hs) (zy_subG hG hs ht hD hK (fun k1 b1 h1 => ?_))
    have hh := ih (s + 1) m k1 b1 (by omega) (by omega) h1
    dsimp only
    cases q : G (s * 16 + t)
    · rw [zt_msk0 q] at hh
      exact br_t rfl (nm_r (nI_1 s) hh)
    · exact br_f (by decide) (nm_r (zt_msk1 q).symm (nm_r (nI_1 s) hh))
theorem zy_fst {post : Int32 → SY → Prop} {J : Int32 → Int32 → Int32 → (Nat → Int32) → (Nat → Int32) → (Nat → Int32) → (Nat → Int32) → (Nat → Int32) → (Nat → Int32) → Prop} {t : Nat} (hG : G = zt_G (zt_H sh ar rs fl oq)) (hD : zt_D sh ar rs fl) (ht : t < 16) (hJ : ∀ (kn' : Int32) (bw' : Nat → Int32), zt_K kn' bw' G → J (nI (zt_kin G (t + 1))) (nI (t + 1)) kn' sh ar rs fl oq bw') :
    ∀ (d s n : Nat) (kn : Int32) (bw : Nat → Int32), s + d = t → d < n → zt_K kn bw G → wY_kinds_15 post J (nI (zt_kin G t)) (nI t) n (zt_i (zt_fst G t s)) (nI s) kn sh ar rs fl oq bw := by
  intro d
  induction d with
  | zero =>
    intro s n kn bw e hn hK
    obtain ⟨m, rfl⟩ : ∃ m, n = m + 1 := ⟨n - 1, by omega⟩
    obtain rfl : s = t := by omega
    have hh := hJ kn bw hK
    refine br_t (nI_le (Nat.le_refl _) (by omega)) ?_
    cases q : zt_fst G s s
    · rw [zt_kin0 q] at hh
      exact br_t rfl (nm_r (nI_1 s) hh)
    · refine br_f (by decide) (nm_r (e' := nI (zt_kin G (s + 1))) ?_ (nm_r (nI_1 s) hh))
      rw [zt_kin1 q, nI_1]
  | succ d ih =>
    intro s n kn bw e hn hK
    obtain ⟨m, rfl⟩ : ∃ m, n = m + 1 := ⟨n - 1, by omega⟩
    have hs : s < 16 := by omega
    refine br_f (nI_ge (by omega) (by omega)) (zy_eqvG hG hs ht hD hK (fun k1 b1 h1 => ?_))
    have hh := ih (s + 1) m k1 b1 (by omega) (by omega) h1
    dsimp only
    cases q : zt_eqv G s t
    · rw [zt_fst0 q] at hh
      exact br_t rfl (nm_r (nI_1 s) hh)
    · rw [zt_fst1 q] at hh
      exact br_f (by decide) (nm_r (nI_1 s) hh)
theorem zy_kin {post : Int32 → SY → Prop} (hG : G = zt_G (zt_H sh ar rs fl oq)) (hD : zt_D sh ar rs fl) (hp : ∀ (kn' : Int32) (bw' : Nat → Int32), zt_K kn' bw' G → post (nI (zt_kin G 16)) (kn', sh, ar, rs, fl, oq, bw')) :
    ∀ (d t n : Nat) (kn : Int32) (bw : Nat → Int32), t + d = 16 → d < n → zt_K kn bw G → wY_kinds_4 post n (nI (zt_kin G t)) (nI t) kn sh ar rs fl oq bw := by
  intro d
  induction d with
  | zero =>
    intro t n kn bw e hn hK
    obtain ⟨m, rfl⟩ : ∃ m, n = m + 1 := ⟨n - 1, by omega⟩
    obtain rfl : t = 16 := by omega
    exact br_t zt_16e (hp kn bw hK)
  | succ d ih =>
    intro t n kn bw e hn hK
    obtain ⟨m, rfl⟩ : ∃ m, n = m + 1 := ⟨n - 1, by omega⟩
    have ht : t < 16 := by omega
    exact br_f (zt_16 ht) ⟨t + 1, zy_fst hG hD ht (fun k1 b1 h1 => ih (t + 1) m k1 b1 (by omega) (by omega) h1) t 0 (t + 1) kn bw (by omega) (by omega) hK⟩
theorem zy_unr {post : Int32 → SY → Prop} {J : Int32 → Int32 → Int32 → (Nat → Int32) → (Nat → Int32) → (Nat → Int32) → (Nat → Int32) → (Nat → Int32) → (Nat → Int32) → Prop} {t : Nat} (hG : G = zt_G (zt_H sh ar rs fl oq)) (hD : zt_D sh ar rs fl) (ht : t < 16) (hJ : ∀ (kn' : Int32) (bw' : Nat → Int32), zt_K kn' bw' G → J (nI (zt_una G (t + 1))) (nI (t + 1)) kn' sh ar rs fl oq bw') :
    ∀ (d s n : Nat) (kn : Int32) (bw : Nat → Int32), s + d = t → d < n → zt_K kn bw G → wY_unrelated_12 post J (nI t) n (nI (zt_una G t + zt_unr G t s)) (nI s) kn sh ar rs fl oq bw := by
  intro d
  induction d with
  | zero =>
    intro s n kn bw e hn hK
    obtain ⟨m, rfl⟩ : ∃ m, n = m + 1 := ⟨n - 1, by omega⟩
    obtain rfl : s = t := by omega
    exact br_t (nI_le (Nat.le_refl _) (by omega)) (nm_r (nI_1 s) (hJ kn bw hK))
  | succ d ih =>
    intro s n kn bw e hn hK
    obtain ⟨m, rfl⟩ : ∃ m, n = m + 1 := ⟨n - 1, by omega⟩
    have hs : s < 16 := by omega
    refine br_f (nI_ge (by omega) (by omega)) (zy_subG hG hs ht hD hK (fun k1 b1 h1 => ?_))
    dsimp only
    cases q1 : G (s * 16 + t)
    · refine br_t rfl (zy_subG hG ht hs hD h1 (fun k2 b2 h2 => ?_))
      have hh := ih (s + 1) m k2 b2 (by omega) (by omega) h2
      dsimp only
      cases q2 : G (t * 16 + s)
      · refine br_t rfl (nm_r (e' := nI (zt_una G t + zt_unr G t (s + 1))) ?_ (nm_r (nI_1 s) hh))
        rw [zt_unr1 q1 q2, nI_1, Nat.add_assoc]
      · rw [zt_unrB q2] at hh
        exact br_f (by decide) (nm_r (nI_1 s) hh)
    · have hh := ih (s + 1) m k1 b1 (by omega) (by omega) h1
      rw [zt_unrA q1] at hh
      exact br_f (by decide) (nm_r (nI_1 s) hh)
theorem zy_una {post : Int32 → SY → Prop} (hG : G = zt_G (zt_H sh ar rs fl oq)) (hD : zt_D sh ar rs fl) (hp : ∀ (kn' : Int32) (bw' : Nat → Int32), zt_K kn' bw' G → post (nI (zt_una G 16)) (kn', sh, ar, rs, fl, oq, bw')) :
    ∀ (d t n : Nat) (kn : Int32) (bw : Nat → Int32), t + d = 16 → d < n → zt_K kn bw G → wY_unrelated_4 post n (nI (zt_una G t)) (nI t) kn sh ar rs fl oq bw := by
  intro d
  induction d with
  | zero =>
    intro t n kn bw e hn hK
    obtain ⟨m, rfl⟩ : ∃ m, n = m + 1 := ⟨n - 1, by omega⟩
    obtain rfl : t = 16 := by omega
    exact br_t zt_16e (hp kn bw hK)
  | succ d ih =>
    intro t n kn bw e hn hK
    obtain ⟨m, rfl⟩ : ∃ m, n = m + 1 := ⟨n - 1, by omega⟩
    have ht : t < 16 := by omega
    exact br_f (zt_16 ht) ⟨t + 1, zy_unr hG hD ht (fun k1 b1 h1 => ih (t + 1) m k1 b1 (by omega) (by omega) h1) t 0 (t + 1) kn bw (by omega) (by omega) hK⟩
end
end
section
/-! the calls that change: shape, fun, field, dropField -/
/-- the relation: both keep the same shapes, arguments and results; the same fields of records; the reference's relation is the pure one where it calls it known -/
def i_Rel (_ : Nat) (u : SX) (v : SY) : Prop :=
  ∃ (sh ar rs pr op ft bl fl oq bw : Nat → Int32) (kn : Int32), u = (sh, ar, rs, pr, op, ft, bl) ∧ v = (kn, sh, ar, rs, fl, oq, bw) ∧ zt_D sh ar rs fl ∧ zt_R sh pr op ft fl oq ∧ zt_K kn bw (zt_G (zt_H sh ar rs fl oq))
theorem zt_mk {k : Nat} {sh ar rs pr op ft bl fl oq bw : Nat → Int32} {kn : Int32} (hD : zt_D sh ar rs fl) (hR : zt_R sh pr op ft fl oq) (hK : zt_K kn bw (zt_G (zt_H sh ar rs fl oq))) : i_Rel k (sh, ar, rs, pr, op, ft, bl) (kn, sh, ar, rs, fl, oq, bw) :=
  ⟨sh, ar, rs, pr, op, ft, bl, fl, oq, bw, kn, rfl, rfl, hD, hR, hK⟩
theorem zt_K0 {bw : Nat → Int32} {G : Nat → Bool} : zt_K 0 bw G := fun h => absurd rfl h
theorem zt_u0 (k : Nat) : upd (fun _ => 0) k 0 = (fun _ => 0 : Nat → Int32) := by
  funext j
  by_cases z : j = k
  · rw [z, pk_us]
  · rw [pk_un z]
theorem zx_init0 {post : SX → Prop} {ar rs pr op ft bl : Nat → Int32} (h : post ((fun _ => 0), ar, rs, pr, op, ft, bl)) : ∀ (d i n : Nat), i + d = 16 → d < n → wX_init_63 post n (nI i) (fun _ => 0) ar rs pr op ft bl := by
  intro d
  induction d with
  | zero =>
    intro i n e hn
    obtain ⟨m, rfl⟩ : ∃ m, n = m + 1 := ⟨n - 1, by omega⟩
    obtain rfl : i = 16 := by omega
    exact br_t zt_16e h
  | succ d ih =>
    intro i n e hn
    obtain ⟨m, rfl⟩ : ∃ m, n = m + 1 := ⟨n - 1, by omega⟩
    have hi : i < 16 := by omega
    exact br_f (zt_16 hi) ⟨vp_in_nI hi (by decide), nm_r (zt_u0 _) (nm_r (nI_1 i) (ih (i + 1) m (by omega) (by omega)))⟩
theorem zt_4 {i : Nat} (h : i < 4) : ¬ (4 : Int32) ≤ nI i := nI_ge (b := 4) h (by decide)
theorem zt_4e : (4 : Int32) ≤ nI 4 := nI_le (a := 4) (b := 4) (Nat.le_refl _) (by decide)
section
variable {kn : Int32} {sh ar rs pr op ft bl fl oq bw : Nat → Int32}
/-- four stores of x from slot i * 4 on -/
def zt_clr (x : Int32) (i : Nat) (f g : Nat → Int32) : Prop := (∀ l, l < 4 → g (i * 4 + l) = x) ∧ ∀ q, q < i * 4 ∨ i * 4 + 4 ≤ q → g q = f q
theorem zx_rsl {post : Int32 → SX → Prop} {x3 : Int32} {i : Nat} (hi : i < 16) (h : ∀ g : Nat → Int32, zt_clr 0 i pr g → post x3 (sh, ar, rs, g, op, ft, bl)) :
    ∀ (d l n : Nat) (g : Nat → Int32), l + d = 4 → d < n → (∀ m, m < l → g (i * 4 + m) = 0) → (∀ q, q < i * 4 ∨ i * 4 + 4 ≤ q → g q = pr q) → wX_reshape_17 post (nI i) x3 n (nI l) sh ar rs g op ft bl := by
  intro d
  induction d with
  | zero =>
    intro l n g e hn h1 h2
    obtain ⟨m, rfl⟩ : ∃ m, n = m + 1 := ⟨n - 1, by omega⟩
    obtain rfl : l = 4 := by omega
    exact br_t zt_4e (h g ⟨h1, h2⟩)
  | succ d ih =>
    intro l n g e hn h1 h2
    obtain ⟨m, rfl⟩ : ∃ m, n = m + 1 := ⟨n - 1, by omega⟩
    have hl : l < 4 := by omega
    refine br_f (zt_4 hl) ?_
    rw [zt_sx, nI_clamp (n := i * 4 + l) (by omega)]
    refine ⟨vp_in_nI (by omega) (by decide), nm_r (e' := upd g (i * 4 + l) 0) rfl (nm_r (nI_1 l) (ih (l + 1) m _ (by omega) (by omega) (fun j hj => ?_) (fun q hq => ?_)))⟩
    · by_cases z : j = l
      · rw [z, pk_us]
      · rw [pk_un (by omega)]; exact h1 j (by omega)
    · rw [pk_un (by omega)]; exact h2 q hq
theorem zx_reshape {post : Int32 → SX → Prop} {p1 : Int32} {i : Nat} (hi : i < 16) (h : ∀ g : Nat → Int32, zt_clr 0 i pr g → post (sh i) (upd sh i p1, ar, rs, g, op, ft, bl)) : wpX_reshape post (sh, ar, rs, pr, op, ft, bl) (nI i) p1 := by
  have ci : (nI i).toNatClampNeg = i := nI_clamp (by omega)
  have ii : vp_in (nI i) 16 := vp_in_nI hi (by decide)
  unfold wpX_reshape
  dsimp only
  rw [ci]
  refine ⟨ii, nm_e ⟨ii, nm_e ?_⟩⟩
  have key : ∃ n : Nat, wX_reshape_17 post (nI i) (sh i) n (nI 0) (upd sh i p1) ar rs pr op ft bl := ⟨5, zx_rsl hi h 4 0 5 pr rfl (by decide) (fun m hm => absurd hm (Nat.not_lt_zero m)) (fun q _ => rfl)⟩
  exact key
theorem zy_shl {post : Int32 → SY → Prop} {x3 : Int32} {i : Nat} (hi : i < 16) (h : ∀ g : Nat → Int32, zt_clr (-1) i fl g → post x3 (0, sh, ar, rs, g, oq, bw)) :
    ∀ (d l n : Nat) (g : Nat → Int32), l + d = 4 → d < n → (∀ m, m < l → g (i * 4 + m) = (-1)) → (∀ q, q < i * 4 ∨ i * 4 + 4 ≤ q → g q = fl q) → wY_shape_44 post (nI i) x3 kn n (nI l) sh ar rs g oq bw := by
  intro d
  induction d with
  | zero =>
    intro l n g e hn h1 h2
    obtain ⟨m, rfl⟩ : ∃ m, n = m + 1 := ⟨n - 1, by omega⟩
    obtain rfl : l = 4 := by omega
    exact br_t zt_4e (h g ⟨h1, h2⟩)
  | succ d ih =>
    intro l n g e hn h1 h2
    obtain ⟨m, rfl⟩ : ∃ m, n = m + 1 := ⟨n - 1, by omega⟩
    have hl : l < 4 := by omega
    refine br_f (zt_4 hl) ?_
    rw [zt_sx, nI_clamp (n := i * 4 + l) (by omega)]
    refine ⟨vp_in_nI (by omega) (by decide), nm_r (e' := upd g (i * 4 + l) (-1)) rfl (nm_r (nI_1 l) (ih (l + 1) m _ (by omega) (by omega) (fun j hj => ?_) (fun q hq => ?_)))⟩
    · by_cases z : j = l
      · rw [z, pk_us]
      · rw [pk_un (by omega)]; exact h1 j (by omega)
    · rw [pk_un (by omega)]; exact h2 q hq
/-- the two refusals are one: 0 for a label of a record, else below 0 -/
theorem zt_ff (v1 v2 : Int32) : ∃ r : Int32, (∀ post : Int32 → Prop, post r → wpX_fieldFault post (sh, ar, rs, pr, op, ft, bl) v1 v2) ∧ (∀ post : Int32 → Prop, post r → wpY_refusal post (kn, sh, ar, rs, fl, oq, bw) v1 v2) ∧ ((r = 0 ∧ ∃ i l : Nat, i < 16 ∧ l < 4 ∧ v1 = nI i ∧ v2 = nI l ∧ sh i = 5) ∨ (¬ r = 0 ∧ ¬ 0 ≤ r)) := by
  rcases zt_tz v1 with b1 | ⟨i, hi, rfl⟩
  · refine ⟨-1, fun post h => ?_, fun post h => ?_, Or.inr ⟨by decide, by decide⟩⟩
    · unfold wpX_fieldFault
      exact zx_tyN b1 (br_t rfl h)
    · unfold wpY_refusal
      exact zy_badN b1 (br_f (by decide) h)
  have ci : (nI i).toNatClampNeg = i := nI_clamp (by omega)
  have ii : vp_in (nI i) 16 := vp_in_nI hi (by decide)
  rcases pk_ix v2 (n := 4) (by decide) with h0 | h4 | ⟨l, hl, rfl⟩
  · refine ⟨-2, fun post h => ?_, fun post h => ?_, Or.inr ⟨by decide, by decide⟩⟩
    · unfold wpX_fieldFault
      exact zx_ty hi (br_f (by decide) (br_t h0 h))
    · unfold wpY_refusal
      exact zy_bad hi (br_t rfl (br_t h0 h))
  · have h4' : (4 : Int32) ≤ v2 := h4
    have n0 : ¬ v2 < 0 := Int32.not_lt.mpr (Int32.le_trans (by decide) h4')
    have n4 : ¬ v2 < 4 := Int32.not_lt.mpr h4'
    have n3 : ¬ v2 ≤ 3 := by
      have e4 : (4 : Int32).toInt = 4 := by decide
      have e3 : (3 : Int32).toInt = 3 := by decide
      rw [Int32.le_iff_toInt_le] at h4' ⊢
      omega
    refine ⟨-2, fun post h => ?_, fun post h => ?_, Or.inr ⟨by decide, by decide⟩⟩
    · unfold wpX_fieldFault
      exact zx_ty hi (br_f (by decide) (br_f n0 (br_f n4 h)))
    · unfold wpY_refusal
      exact zy_bad hi (br_t rfl (br_f n0 (br_f n3 h)))
  have n0 : ¬ nI l < 0 := nI_pos (by omega)
  have l4 : nI l < (4 : Int32) := nI_lt (b := 4) hl (by decide)
  have l3 : nI l ≤ (3 : Int32) := nI_le (b := 3) (by omega) (by decide)
  by_cases c : sh i = 5
  · refine ⟨0, fun post h => ?_, fun post h => ?_, Or.inl ⟨rfl, i, l, hi, hl, rfl, rfl, c⟩⟩
    · unfold wpX_fieldFault
      exact zx_ty hi (br_f (by decide) (br_f n0 (br_t l4 ⟨ii, br_t (by rw [ci]; exact c) h⟩)))
    · unfold wpY_refusal
      exact zy_bad hi (br_t rfl (br_f n0 (br_t l3 ⟨ii, br_t (by rw [ci]; exact c) h⟩)))
  · refine ⟨-3, fun post h => ?_, fun post h => ?_, Or.inr ⟨by decide, by decide⟩⟩
    · unfold wpX_fieldFault
      exact zx_ty hi (br_f (by decide) (br_f n0 (br_t l4 ⟨ii, br_f (by rw [ci]; exact c) h⟩)))
    · unfold wpY_refusal
      exact zy_bad hi (br_t rfl (br_f n0 (br_t l3 ⟨ii, br_f (by rw [ci]; exact c) h⟩)))
def zt_w (x : Int32) : Int32 := if x = 0 then 0 else 1
theorem zx_set {post : Int32 → SX → Prop} {x3 x4 z0 : Int32} {q : Nat} (hq : q < 64) (h : post z0 (sh, ar, rs, upd pr q 1, upd op q (zt_w x4), upd ft q x3, bl)) : wX_field_48 post x3 x4 (nI q) z0 sh ar rs pr op ft bl := by
  have cq : (nI q).toNatClampNeg = q := nI_clamp (by omega)
  have iq : vp_in (nI q) 64 := vp_in_nI hq (by decide)
  refine ⟨iq, nm_r (e' := upd pr q 1) (by rw [cq]; rfl) ?_⟩
  by_cases z : x4 = 0
  · rw [show zt_w x4 = 0 from if_pos z] at h
    exact br_t z ⟨iq, nm_r (e' := upd op q 0) (by rw [cq]; rfl) ⟨iq, nm_r (e' := upd ft q x3) (by rw [cq]) h⟩⟩
  · rw [show zt_w x4 = 1 from if_neg z] at h
    exact br_f z ⟨iq, nm_r (e' := upd op q 1) (by rw [cq]; rfl) ⟨iq, nm_r (e' := upd ft q x3) (by rw [cq]) h⟩⟩
theorem zy_set {post : Int32 → SY → Prop} {p1 p2 : Int32} {q : Nat} (hq : q < 64) (h0 : fl q < 0 → post 0 (0, sh, ar, rs, upd fl q p1, upd oq q (vp_nar .boolean p2), bw)) (h1 : ¬ fl q < 0 → post 1 (0, sh, ar, rs, upd fl q p1, upd oq q (vp_nar .boolean p2), bw)) : wpY_setField post (kn, sh, ar, rs, fl, oq, bw) (nI q) p1 p2 := by
  have cq : (nI q).toNatClampNeg = q := nI_clamp (by omega)
  have iq : vp_in (nI q) 64 := vp_in_nI hq (by decide)
  unfold wpY_setField
  dsimp only
  rw [cq]
  exact ⟨iq, br_c (fun z => ⟨iq, nm_r (e' := upd fl q p1) (by rw [cq]) ⟨iq, nm_r (e' := upd oq q (vp_nar .boolean p2)) (by rw [cq]) (h0 z)⟩⟩) (fun z => ⟨iq, nm_r (e' := upd fl q p1) (by rw [cq]) ⟨iq, nm_r (e' := upd oq q (vp_nar .boolean p2)) (by rw [cq]) (h1 z)⟩⟩)⟩
/-! what stays after each change -/
theorem zt_upr {n m i : Nat} {f : Nat → Int32} {x : Int32} (hf : ∀ j, j < n → ∃ a : Nat, a < m ∧ f j = nI a) (hx : ∃ a : Nat, a < m ∧ x = nI a) : ∀ j, j < n → ∃ a : Nat, a < m ∧ upd f i x j = nI a := by
  intro j hj
  by_cases z : j = i
  · rw [z, pk_us]; exact hx
  · rw [pk_un z]; exact hf j hj
theorem zt_Dshape {i j : Nat} {g : Nat → Int32} (hD : zt_D sh ar rs fl) (hi : i < 16) (hj : j < 6) (hg : zt_clr (-1) i fl g) : zt_D (upd sh i (nI j)) ar rs g := by
  refine ⟨zt_upr hD.1 ⟨j, hj, rfl⟩, hD.2.1, hD.2.2.1, fun q hq => ?_⟩
  by_cases z : q < i * 4 ∨ i * 4 + 4 ≤ q
  · rw [hg.2 q z]; exact hD.2.2.2 q hq
  · have e := hg.1 (q - i * 4) (by omega)
    rw [show i * 4 + (q - i * 4) = q from by omega] at e
    rw [e]; exact Or.inl (by decide)
theorem zt_Rshape {i : Nat} {x : Int32} {p g : Nat → Int32} (hR : zt_R sh pr op ft fl oq) (hp : zt_clr 0 i pr p) (hg : zt_clr (-1) i fl g) : zt_R (upd sh i x) p op ft g oq := by
  intro a l ha hl h5
  by_cases z : a = i
  · rw [z, hp.1 l hl, hg.1 l hl]; exact Or.inl ⟨rfl, by decide⟩
  · rw [pk_un z] at h5
    rw [hp.2 _ (by omega), hg.2 _ (by omega)]
    exact hR a l ha hl h5
theorem zt_Dfun {i j k : Nat} (hD : zt_D sh ar rs fl) (hj : j < 16) (hk : k < 16) : zt_D (upd sh i 4) (upd ar i (nI j)) (upd rs i (nI k)) fl :=
  ⟨zt_upr hD.1 ⟨4, by decide, rfl⟩, zt_upr hD.2.1 ⟨j, hj, rfl⟩, zt_upr hD.2.2.1 ⟨k, hk, rfl⟩, hD.2.2.2⟩
theorem zt_Rfun {i : Nat} {p : Nat → Int32} (hR : zt_R sh pr op ft fl oq) (hp : zt_clr 0 i pr p) : zt_R (upd sh i 4) p op ft fl oq := by
  intro a l ha hl h5
  by_cases z : a = i
  · rw [z, pk_us] at h5; exact absurd h5 (by decide)
  · rw [pk_un z] at h5
    rw [hp.2 _ (by omega)]
    exact hR a l ha hl h5
theorem zt_Dset {q j : Nat} (hD : zt_D sh ar rs fl) (hj : j < 16) : zt_D sh ar rs (upd fl q (nI j)) := by
  refine ⟨hD.1, hD.2.1, hD.2.2.1, fun p hp => ?_⟩
  by_cases z : p = q
  · rw [z, pk_us]; exact Or.inr ⟨j, hj, rfl⟩
  · rw [pk_un z]; exact hD.2.2.2 p hp
theorem zt_Rset {q j : Nat} {w : Int32} (hR : zt_R sh pr op ft fl oq) (hj : j < 16) : zt_R sh (upd pr q 1) (upd op q w) (upd ft q (nI j)) (upd fl q (nI j)) (upd oq q w) := by
  intro a l ha hl h5
  by_cases z : a * 4 + l = q
  · rw [z, pk_us, pk_us, pk_us, pk_us, pk_us]; exact Or.inr ⟨by decide, nI_pos (by omega), rfl, rfl⟩
  · rw [pk_un z, pk_un z, pk_un z, pk_un z, pk_un z]; exact hR a l ha hl h5
theorem zt_Ddrop {q : Nat} (hD : zt_D sh ar rs fl) : zt_D sh ar rs (upd fl q (-1)) := by
  refine ⟨hD.1, hD.2.1, hD.2.2.1, fun p hp => ?_⟩
  by_cases z : p = q
  · rw [z, pk_us]; exact Or.inl (by decide)
  · rw [pk_un z]; exact hD.2.2.2 p hp
theorem zt_Rdrop {q : Nat} {w : Int32} (hR : zt_R sh pr op ft fl oq) : zt_R sh (upd pr q 0) op ft (upd fl q (-1)) (upd oq q w) := by
  intro a l ha hl h5
  by_cases z : a * 4 + l = q
  · rw [z, pk_us, pk_us]; exact Or.inl ⟨rfl, by decide⟩
  · rw [pk_un z, pk_un z, pk_un z]; exact hR a l ha hl h5
end
end
section
/-! what is owed -/
theorem i_up {k : Nat} {u : SX} {v : SY} (h : i_Rel k u v) : i_Rel (k + 5) u v := h
theorem i_vc0 : wpX_init (fun u => wpY_init (fun v => i_Rel 0 u v)) := by
  have key : ∃ n : Nat, wX_init_63 (fun u => wpY_init (fun v => i_Rel 0 u v)) n (nI 0) (fun _ => 0) (fun _ => 0) (fun _ => 0) (fun _ => 0) (fun _ => 0) (fun _ => 0) (fun _ => 0) := by
    refine ⟨17, zx_init0 ?_ 16 0 17 rfl (by decide)⟩
    refine zt_mk (k := 0) ⟨fun _ _ => ⟨0, by decide, rfl⟩, fun _ _ => ⟨0, by decide, rfl⟩, fun _ _ => ⟨0, by decide, rfl⟩, fun _ _ => Or.inr ⟨0, by decide, rfl⟩⟩ (fun i l _ _ h => ?_) zt_K0
    exact absurd (show (0 : Int32) = 5 from h) (by decide)
  exact key
theorem i_vc_shape {k : Nat} {u : SX} {v : SY} (I : i_Rel k u v) (hk : k + 5 ≤ 2560) (v1 : Int32) (v2 : Int32) : wpX_shape (fun r u' => wpY_shape (fun r' v' => r' = r ∧ i_Rel (k + 5) u' v') v v1 v2) u v1 v2 := by
  obtain ⟨sh, ar, rs, pr, op, ft, bl, fl, oq, bw, kn, rfl, rfl, hD, hR, hK⟩ := I
  unfold wpX_shape wpY_shape
  dsimp only
  rcases zt_tz v1 with b1 | ⟨i, hi, rfl⟩
  · exact zx_tyN b1 (br_t rfl (zy_badN b1 (br_f (by decide) ⟨rfl, zt_mk hD hR hK⟩)))
  refine zx_ty hi (br_f (by decide) ?_)
  by_cases c0 : v2 < 0
  · exact br_t c0 (zy_bad hi (br_t rfl (br_t c0 ⟨rfl, zt_mk hD hR hK⟩)))
  by_cases c5 : 5 < v2
  · exact br_f c0 (br_t c5 (zy_bad hi (br_t rfl (br_f c0 (br_t c5 ⟨rfl, zt_mk hD hR hK⟩)))))
  by_cases c4 : v2 = 4
  · exact br_f c0 (br_f c5 (br_t c4 (zy_bad hi (br_t rfl (br_f c0 (br_f c5 (br_t c4 ⟨rfl, zt_mk hD hR hK⟩)))))))
  obtain ⟨j, hj, rfl⟩ := nI_of2 (x := v2) (M := 5) (n := 5) (by decide) c0 (Int32.not_lt.mp c5)
  have ci : (nI i).toNatClampNeg = i := nI_clamp (by omega)
  have ii : vp_in (nI i) 16 := vp_in_nI hi (by decide)
  refine br_f c0 (br_f c5 (br_f c4 (zx_reshape hi (fun p hp => ?_))))
  dsimp only
  refine zy_bad hi (br_t rfl (br_f c0 (br_f c5 (br_f c4 ?_))))
  rw [ci]
  refine ⟨ii, nm_e ⟨ii, nm_e ?_⟩⟩
  have key := fun (post : Int32 → SY → Prop) h => zy_shl (post := post) (x3 := sh i) (kn := kn) (sh := upd sh i (nI j)) (ar := ar) (rs := rs) (fl := fl) (oq := oq) (bw := bw) hi h 4 0 5 fl rfl (by decide) (fun m hm => absurd hm (Nat.not_lt_zero m)) (fun q _ => rfl)
  exact ⟨5, key _ (fun g hg => ⟨rfl, zt_mk (zt_Dshape hD hi (by omega) hg) (zt_Rshape hR hp hg) zt_K0⟩)⟩
theorem i_vc_fun {k : Nat} {u : SX} {v : SY} (I : i_Rel k u v) (hk : k + 5 ≤ 2560) (v1 : Int32) (v2 : Int32) (v3 : Int32) : wpX_fun (fun r u' => wpY_fun (fun r' v' => r' = r ∧ i_Rel (k + 5) u' v') v v1 v2 v3) u v1 v2 v3 := by
  obtain ⟨sh, ar, rs, pr, op, ft, bl, fl, oq, bw, kn, rfl, rfl, hD, hR, hK⟩ := I
  unfold wpX_fun wpY_fun
  dsimp only
  rcases zt_tz v1 with b1 | ⟨i, hi, rfl⟩
  · exact zx_tyN b1 (br_t rfl (zy_badN b1 (br_f (by decide) ⟨rfl, zt_mk hD hR hK⟩)))
  refine zx_ty hi (br_f (by decide) ?_)
  rcases zt_tz v2 with b2 | ⟨a, ha, rfl⟩
  · exact zx_tyN b2 (br_t rfl (zy_bad hi (br_t rfl (zy_badN b2 (br_f (by decide) ⟨rfl, zt_mk hD hR hK⟩)))))
  refine zx_ty ha (br_f (by decide) ?_)
  rcases zt_tz v3 with b3 | ⟨b, hb, rfl⟩
  · exact zx_tyN b3 (br_t rfl (zy_bad hi (br_t rfl (zy_bad ha (br_t rfl (zy_badN b3 (br_f (by decide) ⟨rfl, zt_mk hD hR hK⟩)))))))
  have ci : (nI i).toNatClampNeg = i := nI_clamp (by omega)
  have ii : vp_in (nI i) 16 := vp_in_nI hi (by decide)
  refine zx_ty hb (br_f (by decide) ?_)
  rw [ci]
  refine ⟨ii, nm_e ⟨ii, nm_e (zx_reshape hi (fun p hp => ?_))⟩⟩
  dsimp only
  refine zy_bad hi (br_t rfl (zy_bad ha (br_t rfl (zy_bad hb (br_t rfl ?_)))))
  exact ⟨ii, nm_e ⟨ii, nm_e ⟨ii, nm_e ⟨ii, nm_e ⟨rfl, zt_mk (zt_Dfun hD ha hb) (zt_Rfun hR hp) zt_K0⟩⟩⟩⟩⟩
theorem i_vc_field {k : Nat} {u : SX} {v : SY} (I : i_Rel k u v) (hk : k + 5 ≤ 2560) (v1 : Int32) (v2 : Int32) (v3 : Int32) (v4 : Int32) : wpX_field (fun r u' => wpY_field (fun r' v' => r' = r ∧ i_Rel (k + 5) u' v') v v1 v2 v3 v4) u v1 v2 v3 v4 := by
  obtain ⟨sh, ar, rs, pr, op, ft, bl, fl, oq, bw, kn, rfl, rfl, hD, hR, hK⟩ := I
  unfold wpX_field wpY_field
  dsimp only
  rcases zt_tz v3 with b3 | ⟨b, hb, rfl⟩
  · exact zx_tyN b3 (br_t rfl (zy_badN b3 (br_f (by decide) ⟨rfl, zt_mk hD hR hK⟩)))
  refine zx_ty hb (br_f (by decide) ?_)
  obtain ⟨r, hX, hY, ⟨rfl, i, l, hi, hl, rfl, rfl, h5⟩ | ⟨hr, hr2⟩⟩ := zt_ff (kn := kn) (sh := sh) (ar := ar) (rs := rs) (pr := pr) (op := op) (ft := ft) (bl := bl) (fl := fl) (oq := oq) (bw := bw) v1 v2
  · have hq : i * 4 + l < 64 := by omega
    have cq : (nI (i * 4 + l)).toNatClampNeg = i * 4 + l := nI_clamp (by omega)
    refine hX _ (br_t rfl (nm_r (zt_sx i l) ⟨vp_in_nI hq (by decide), ?_⟩))
    rw [cq]
    have fin : ∀ z : Int32, (z = 0 → fl (i * 4 + l) < 0) → (z = 1 → ¬ fl (i * 4 + l) < 0) → (z = 0 ∨ z = 1) → wpY_bad (fun r_1 => (r_1 = 0 → wpY_refusal (fun r_10 => (0 ≤ r_10 → (v4 = 0 → wY_field_43 (fun r' v' => r' = z ∧ i_Rel (k + 5) (sh, ar, rs, upd pr (i * 4 + l) 1, upd op (i * 4 + l) (zt_w v4), upd ft (i * 4 + l) (nI b), bl) v') 0 (nI b) (nI i * 4 + nI l) kn sh ar rs fl oq bw) ∧ (¬ v4 = 0 → wY_field_43 (fun r' v' => r' = z ∧ i_Rel (k + 5) (sh, ar, rs, upd pr (i * 4 + l) 1, upd op (i * 4 + l) (zt_w v4), upd ft (i * 4 + l) (nI b), bl) v') 1 (nI b) (nI i * 4 + nI l) kn sh ar rs fl oq bw)) ∧ (¬ 0 ≤ r_10 → r_10 = z ∧ i_Rel (k + 5) (sh, ar, rs, upd pr (i * 4 + l) 1, upd op (i * 4 + l) (zt_w v4), upd ft (i * 4 + l) (nI b), bl) (kn, sh, ar, rs, fl, oq, bw))) (kn, sh, ar, rs, fl, oq, bw) (nI i) (nI l)) ∧ (¬ r_1 = 0 → -1 = z ∧ i_Rel (k + 5) (sh, ar, rs, upd pr (i * 4 + l) 1, upd op (i * 4 + l) (zt_w v4), upd ft (i * 4 + l) (nI b), bl) (kn, sh, ar, rs, fl, oq, bw))) (kn, sh, ar, rs, fl, oq, bw) (nI b) := by
      intro z h0 h1 h01
      refine zy_bad hb (br_t rfl (hY _ (br_t (by decide) ?_)))
      rw [zt_sx]
      have fin2 : ∀ w : Int32, vp_nar .boolean w = zt_w v4 → wY_field_43 (fun r' v' => r' = z ∧ i_Rel (k + 5) (sh, ar, rs, upd pr (i * 4 + l) 1, upd op (i * 4 + l) (zt_w v4), upd ft (i * 4 + l) (nI b), bl) v') w (nI b) (nI (i * 4 + l)) kn sh ar rs fl oq bw := by
        intro w hw
        unfold wY_field_43
        refine zy_set hq (fun c => ?_) (fun c => ?_)
        · dsimp only
          rw [hw]
          exact ⟨(h01.resolve_right (fun e => h1 e c)).symm, zt_mk (zt_Dset hD hb) (zt_Rset hR hb) zt_K0⟩
        · dsimp only
          rw [hw]
          exact ⟨(h01.resolve_left (fun e => c (h0 e))).symm, zt_mk (zt_Dset hD hb) (zt_Rset hR hb) zt_K0⟩
      exact br_c (fun c => fin2 0 (show (0 : Int32) = _ from (if_pos c).symm)) (fun c => fin2 1 (show (1 : Int32) = _ from (if_neg c).symm))
    rcases hR i l hi hl h5 with ⟨p0, f0⟩ | ⟨p1, f1, _, _⟩
    · exact br_t p0 (zx_set hq (fin 0 (fun _ => f0) (fun e => absurd e (by decide)) (Or.inl rfl)))
    · exact br_f p1 (zx_set hq (fin 1 (fun e => absurd e (by decide)) (fun _ => f1) (Or.inr rfl)))
  · exact hX _ (br_f hr (zy_bad hb (br_t rfl (hY _ (br_f hr2 ⟨rfl, zt_mk hD hR hK⟩)))))
theorem i_vc_dropField {k : Nat} {u : SX} {v : SY} (I : i_Rel k u v) (hk : k + 5 ≤ 2560) (v1 : Int32) (v2 : Int32) : wpX_dropField (fun r u' => wpY_dropField (fun r' v' => r' = r ∧ i_Rel (k + 5) u' v') v v1 v2) u v1 v2 := by
  obtain ⟨sh, ar, rs, pr, op, ft, bl, fl, oq, bw, kn, rfl, rfl, hD, hR, hK⟩ := I
  unfold wpX_dropField wpY_dropField
  dsimp only
  obtain ⟨r, hX, hY, ⟨rfl, i, l, hi, hl, rfl, rfl, h5⟩ | ⟨hr, hr2⟩⟩ := zt_ff (kn := kn) (sh := sh) (ar := ar) (rs := rs) (pr := pr) (op := op) (ft := ft) (bl := bl) (fl := fl) (oq := oq) (bw := bw) v1 v2
  · have hq : i * 4 + l < 64 := by omega
    have cq : (nI (i * 4 + l)).toNatClampNeg = i * 4 + l := nI_clamp (by omega)
    have iq : vp_in (nI (i * 4 + l)) 64 := vp_in_nI hq (by decide)
    refine hX _ (br_t rfl (nm_r (zt_sx i l) ⟨iq, ?_⟩))
    rw [cq]
    rcases hR i l hi hl h5 with ⟨p0, f0⟩ | ⟨p1, f1, _, _⟩
    · refine br_t p0 ⟨iq, nm_r (e' := upd pr (i * 4 + l) 0) (by rw [cq]; rfl) ?_⟩
      refine hY _ (br_t (by decide) ?_)
      rw [zt_sx]
      exact zy_set hq (fun _ => ⟨rfl, zt_mk (zt_Ddrop hD) (zt_Rdrop hR) zt_K0⟩) (fun c => absurd f0 c)
    · refine br_f p1 ⟨iq, nm_r (e' := upd pr (i * 4 + l) 0) (by rw [cq]; rfl) ?_⟩
      refine hY _ (br_t (by decide) ?_)
      rw [zt_sx]
      exact zy_set hq (fun c => absurd c f1) (fun _ => ⟨rfl, zt_mk (zt_Ddrop hD) (zt_Rdrop hR) zt_K0⟩)
  · exact hX _ (br_f hr (hY _ (br_f hr2 ⟨rfl, zt_mk hD hR hK⟩)))
theorem i_vc_subtype {k : Nat} {u : SX} {v : SY} (I : i_Rel k u v) (hk : k + 5 ≤ 2560) (v1 : Int32) (v2 : Int32) : wpX_subtype (fun r u' => wpY_subtype (fun r' v' => r' = r ∧ i_Rel (k + 5) u' v') v v1 v2) u v1 v2 := by
  obtain ⟨sh, ar, rs, pr, op, ft, bl, fl, oq, bw, kn, rfl, rfl, hD, hR, hK⟩ := I
  unfold wpX_subtype
  dsimp only
  rcases zt_tz v1 with b1 | ⟨s, hs, rfl⟩
  · unfold wpY_subtype
    exact zx_tyN b1 (br_t rfl (zy_badN b1 (br_f (by decide) ⟨rfl, zt_mk hD hR hK⟩)))
  refine zx_ty hs (br_f (by decide) ?_)
  rcases zt_tz v2 with b2 | ⟨t, ht, rfl⟩
  · unfold wpY_subtype
    exact zx_tyN b2 (br_t rfl (zy_bad hs (br_t rfl (zy_badN b2 (br_f (by decide) ⟨rfl, zt_mk hD hR hK⟩)))))
  refine zx_ty ht (br_f (by decide) (zx_settle hR hD (fun bl' hb => ?_)))
  dsimp only
  exact zx_bel hs ht hb ⟨zt_nar _, zy_sub hs ht hD hK (fun k1 b1 h1 => ⟨rfl, zt_mk hD hR h1⟩)⟩
theorem i_vc_equivalent {k : Nat} {u : SX} {v : SY} (I : i_Rel k u v) (hk : k + 5 ≤ 2560) (v1 : Int32) (v2 : Int32) : wpX_equivalent (fun r u' => wpY_equivalent (fun r' v' => r' = r ∧ i_Rel (k + 5) u' v') v v1 v2) u v1 v2 := by
  obtain ⟨sh, ar, rs, pr, op, ft, bl, fl, oq, bw, kn, rfl, rfl, hD, hR, hK⟩ := I
  unfold wpX_equivalent
  dsimp only
  rcases zt_tz v1 with b1 | ⟨s, hs, rfl⟩
  · unfold wpY_equivalent wpY_subtype
    exact zx_tyN b1 (br_t rfl (zy_badN b1 (br_f (by decide) (br_t rfl ⟨rfl, zt_mk hD hR hK⟩))))
  refine zx_ty hs (br_f (by decide) ?_)
  rcases zt_tz v2 with b2 | ⟨t, ht, rfl⟩
  · unfold wpY_equivalent wpY_subtype
    exact zx_tyN b2 (br_t rfl (zy_bad hs (br_t rfl (zy_badN b2 (br_f (by decide) (br_t rfl ⟨rfl, zt_mk hD hR hK⟩))))))
  refine zx_ty ht (br_f (by decide) (zx_settle hR hD (fun bl' hb => ?_)))
  dsimp only
  refine zx_bel hs ht hb ?_
  have hY : ∀ z : Int32, zt_i (zt_eqv (zt_G (zt_H sh ar rs fl oq)) s t) = z → wpY_equivalent (fun r' v' => r' = z ∧ i_Rel (k + 5) (sh, ar, rs, pr, op, ft, bl') v') (kn, sh, ar, rs, fl, oq, bw) (nI s) (nI t) :=
    fun z e => zy_eqv hs ht hD hK (fun k1 b1 h1 => ⟨e, zt_mk hD hR h1⟩)
  cases q1 : zt_G (zt_H sh ar rs fl oq) (s * 16 + t)
  · exact br_t rfl (hY 0 (by unfold zt_eqv; rw [q1, Bool.false_and]; rfl))
  refine br_f (by decide) (zx_bel ht hs hb ?_)
  cases q2 : zt_G (zt_H sh ar rs fl oq) (t * 16 + s)
  · exact br_t rfl (hY 0 (by unfold zt_eqv; rw [q2, Bool.and_false]; rfl))
  · exact br_f (by decide) (hY 1 (by unfold zt_eqv; rw [q1, q2]; rfl))
theorem i_vc_subtypes {k : Nat} {u : SX} {v : SY} (I : i_Rel k u v) (hk : k + 5 ≤ 2560) (v1 : Int32) : wpX_subtypes (fun r u' => wpY_subtypes (fun r' v' => r' = r ∧ i_Rel (k + 5) u' v') v v1) u v1 := by
  obtain ⟨sh, ar, rs, pr, op, ft, bl, fl, oq, bw, kn, rfl, rfl, hD, hR, hK⟩ := I
  unfold wpX_subtypes wpY_subtypes
  dsimp only
  rcases zt_tz v1 with b1 | ⟨t, ht, rfl⟩
  · exact zx_tyN b1 (br_t rfl (zy_badN b1 (br_f (by decide) ⟨rfl, zt_mk hD hR hK⟩)))
  refine zx_ty ht (br_f (by decide) (zx_settle hR hD (fun bl' hb => ?_)))
  dsimp only
  refine ⟨17, zx_msk ht hb ?_ 16 0 17 rfl (by decide)⟩
  refine zy_bad ht (br_t rfl ⟨17, zy_msk rfl hD ht (fun k1 b1 h1 => ?_) 16 0 17 kn bw rfl (by decide) hK⟩)
  exact ⟨rfl, zt_mk hD hR h1⟩
theorem i_vc_kinds {k : Nat} {u : SX} {v : SY} (I : i_Rel k u v) (hk : k + 5 ≤ 2560) : wpX_kinds (fun r u' => wpY_kinds (fun r' v' => r' = r ∧ i_Rel (k + 5) u' v') v) u := by
  obtain ⟨sh, ar, rs, pr, op, ft, bl, fl, oq, bw, kn, rfl, rfl, hD, hR, hK⟩ := I
  unfold wpX_kinds wpY_kinds
  dsimp only
  refine zx_settle hR hD (fun bl' hb => ?_)
  dsimp only
  refine ⟨17, zx_kin hb ?_ 16 0 17 rfl (by decide)⟩
  refine ⟨17, zy_kin rfl hD (fun k1 b1 h1 => ?_) 16 0 17 kn bw rfl (by decide) hK⟩
  exact ⟨rfl, zt_mk hD hR h1⟩
theorem i_vc_unrelated {k : Nat} {u : SX} {v : SY} (I : i_Rel k u v) (hk : k + 5 ≤ 2560) : wpX_unrelated (fun r u' => wpY_unrelated (fun r' v' => r' = r ∧ i_Rel (k + 5) u' v') v) u := by
  obtain ⟨sh, ar, rs, pr, op, ft, bl, fl, oq, bw, kn, rfl, rfl, hD, hR, hK⟩ := I
  unfold wpX_unrelated wpY_unrelated
  dsimp only
  refine zx_settle hR hD (fun bl' hb => ?_)
  dsimp only
  refine ⟨17, zx_una hb ?_ 16 0 17 rfl (by decide)⟩
  refine ⟨17, zy_una rfl hD (fun k1 b1 h1 => ?_) 16 0 17 kn bw rfl (by decide) hK⟩
  exact ⟨rfl, zt_mk hD hR h1⟩
theorem i_vc_shapeOf {k : Nat} {u : SX} {v : SY} (I : i_Rel k u v) (hk : k + 5 ≤ 2560) (v1 : Int32) : wpX_shapeOf (fun r => wpY_shapeOf (fun r' => r' = r ∧ i_Rel (k + 5) u v) v v1) u v1 := by
  obtain ⟨sh, ar, rs, pr, op, ft, bl, fl, oq, bw, kn, rfl, rfl, hD, hR, hK⟩ := I
  unfold wpX_shapeOf wpY_shapeOf
  dsimp only
  rcases zt_tz v1 with b1 | ⟨i, hi, rfl⟩
  · exact zx_tyN b1 (br_t rfl (zy_badN b1 (br_f (by decide) ⟨rfl, zt_mk hD hR hK⟩)))
  have ii : vp_in (nI i) 16 := vp_in_nI hi (by decide)
  exact zx_ty hi (br_f (by decide) ⟨ii, zy_bad hi (br_t rfl ⟨ii, rfl, zt_mk hD hR hK⟩)⟩)
end
