/-! rows of kit/rows, pasted: stores, arithmetic, branches by naturals -/
theorem pk_us {f : Nat → Int32} {k : Nat} {x : Int32} : upd f k x k = x := if_pos rfl
theorem pk_un {f : Nat → Int32} {k j : Nat} {x : Int32} (h : j ≠ k) : upd f k x j = f j := if_neg h
theorem pk_sub {a b : Nat} (h : b ≤ a) : nI a - nI b = nI (a - b) := by
  obtain ⟨c, rfl⟩ : ∃ c, a = c + b := ⟨a - b, by omega⟩
  rw [← nI_add, Int32.add_sub_cancel, Nat.add_sub_cancel]
theorem pk_m1 (n : Nat) : nI (n + 1) + (-1) = nI n := by
  rw [← nI_1, Int32.add_assoc, show (1 : Int32) + (-1) = 0 from rfl, Int32.add_zero]
theorem pk_mul (a b : Nat) : nI a * nI b = nI (a * b) := (Int32.ofNat_mul a b).symm
theorem pk_div {a d : Nat} (ha : a < 2 ^ 31) (h0 : 0 < d) (hd : d < 2 ^ 31) : nI a / nI d = nI (a / d) := by
  apply Int32.toInt_inj.mp
  rw [lg_idiv_nonneg (by rw [nI_toInt ha]; omega) (by rw [nI_toInt hd]; omega), nI_toInt ha, nI_toInt hd, nI_toInt (Nat.lt_of_le_of_lt (Nat.div_le_self a d) ha)]
  first | rfl | exact (Int.natCast_ediv _ _).symm
theorem pk_rem {a d : Nat} (ha : a < 2 ^ 31) (h0 : 0 < d) (hd : d < 2 ^ 31) : nI a - nI a / nI d * nI d = nI (a % d) := by
  rw [pk_div ha h0 hd, pk_mul, pk_sub (Nat.div_mul_le_self a d)]
  exact congrArg nI (by have := Nat.div_add_mod' a d; omega)
theorem pk_ix (x : Int32) {n : Nat} (hn : n < 2 ^ 31) : x < 0 ∨ nI n ≤ x ∨ ∃ j : Nat, j < n ∧ x = nI j := by
  by_cases h : x < 0
  · exact Or.inl h
  · obtain ⟨j, hj, rfl⟩ := nI_of h
    by_cases h2 : j < n
    · exact Or.inr (Or.inr ⟨j, h2, rfl⟩)
    · exact Or.inr (Or.inl (nI_le (by omega) hj))
theorem pk_le {x y : Int32} {A B : Prop} (a b : Nat) (f : a ≤ b → A) (g : b < a → B) (hx : x = nI a := by rfl) (hy : y = nI b := by rfl) (ha : a < 2 ^ 31 := by omega) (hb : b < 2 ^ 31 := by omega) : (x ≤ y → A) ∧ (¬ x ≤ y → B) := by
  subst hx hy
  rw [nI_leI ha hb]
  exact ⟨f, fun z => g (by omega)⟩
theorem pk_lt {x y : Int32} {A B : Prop} (a b : Nat) (f : a < b → A) (g : b ≤ a → B) (hx : x = nI a := by rfl) (hy : y = nI b := by rfl) (ha : a < 2 ^ 31 := by omega) (hb : b < 2 ^ 31 := by omega) : (x < y → A) ∧ (¬ x < y → B) := by
  subst hx hy
  rw [nI_ltI ha hb]
  exact ⟨f, fun z => g (by omega)⟩
theorem pk_eq {x y : Int32} {A B : Prop} (a b : Nat) (f : a = b → A) (g : a ≠ b → B) (hx : x = nI a := by rfl) (hy : y = nI b := by rfl) (ha : a < 2 ^ 31 := by omega) (hb : b < 2 ^ 31 := by omega) : (x = y → A) ∧ (¬ x = y → B) := by
  subst hx hy
  rw [nI_eq ha hb]
  exact ⟨f, g⟩
theorem pk_in {x : Int32} (n N : Nat) (h : n < N) (hx : x = nI n := by rfl) (hN : N < 2 ^ 31 := by omega) : vp_in x N := by
  subst hx
  exact vp_in_nI h hN
theorem pk_cl {x : Int32} (n : Nat) (hx : x = nI n := by rfl) (h : n < 2 ^ 31 := by omega) : x.toNatClampNeg = n := by
  subst hx
  exact nI_clamp h
/-! the pure picture: a truth value as it is kept, one pass over the 256 pairs, up to 257 passes -/
def zt_i (b : Bool) : Int32 := if b = true then 1 else 0
theorem zt_it1 : zt_i true = 1 := rfl
theorem zt_if0 : zt_i false = 0 := rfl
theorem zt_i0 {b : Bool} : zt_i b = 0 ↔ b = false := by cases b <;> decide
theorem zt_i1 {b : Bool} : ¬ zt_i b = 0 ↔ b = true := by cases b <;> decide
theorem zt_nar (b : Bool) : narrow .boolean (.int (zt_i b)) = .int (zt_i b) := by cases b <;> rfl
theorem zt_vn0 : vp_nar .boolean 0 = 0 := rfl
theorem zt_vn1 : vp_nar .boolean 1 = 1 := rfl
def zt_at (bl : Nat → Int32) (B : Nat → Bool) : Prop := ∀ p, p < 256 → bl p = zt_i (B p)
def zt_pass (H : (Nat → Bool) → Nat → Bool) (B : Nat → Bool) : Nat → (Nat → Bool)
  | 0 => B
  | i + 1 => fun q => if q = i then (zt_pass H B i i && H (zt_pass H B i) i) else zt_pass H B i q
def zt_flag (H : (Nat → Bool) → Nat → Bool) (B : Nat → Bool) : Nat → Bool
  | 0 => false
  | i + 1 => zt_flag H B i || (zt_pass H B i i && !H (zt_pass H B i) i)
def zt_rep (H : (Nat → Bool) → Nat → Bool) : Nat → (Nat → Bool) → (Nat → Bool)
  | 0, B => B
  | k + 1, B => if zt_flag H B 256 = true then zt_rep H k (zt_pass H B 256) else zt_pass H B 256
def zt_G (H : (Nat → Bool) → Nat → Bool) : Nat → Bool := zt_rep H 257 (fun _ => true)
theorem zt_s0 {H : (Nat → Bool) → Nat → Bool} {B : Nat → Bool} {i : Nat} {bl : Nat → Int32} (h : zt_at bl (zt_pass H B i)) (e : zt_pass H B i i = false) : zt_at bl (zt_pass H B (i + 1)) ∧ zt_flag H B (i + 1) = zt_flag H B i := by
  refine ⟨fun p hp => ?_, ?_⟩
  · rw [h p hp]
    show _ = zt_i (if p = i then (zt_pass H B i i && H (zt_pass H B i) i) else zt_pass H B i p)
    by_cases z : p = i
    · rw [if_pos z, z, e, Bool.false_and]
    · rw [if_neg z]
  · show (zt_flag H B i || (zt_pass H B i i && !H (zt_pass H B i) i)) = zt_flag H B i
    rw [e, Bool.false_and, Bool.or_false]
theorem zt_s1 {H : (Nat → Bool) → Nat → Bool} {B : Nat → Bool} {i : Nat} {bl : Nat → Int32} (h : zt_at bl (zt_pass H B i)) (e : zt_pass H B i i = true) (e2 : H (zt_pass H B i) i = true) : zt_at bl (zt_pass H B (i + 1)) ∧ zt_flag H B (i + 1) = zt_flag H B i := by
  refine ⟨fun p hp => ?_, ?_⟩
  · rw [h p hp]
    show _ = zt_i (if p = i then (zt_pass H B i i && H (zt_pass H B i) i) else zt_pass H B i p)
    by_cases z : p = i
    · rw [if_pos z, z, e, e2, Bool.true_and]
    · rw [if_neg z]
  · show (zt_flag H B i || (zt_pass H B i i && !H (zt_pass H B i) i)) = zt_flag H B i
    rw [e, e2, Bool.true_and, Bool.not_true, Bool.or_false]
theorem zt_s2 {H : (Nat → Bool) → Nat → Bool} {B : Nat → Bool} {i : Nat} {bl : Nat → Int32} (h : zt_at bl (zt_pass H B i)) (e : zt_pass H B i i = true) (e2 : H (zt_pass H B i) i = false) : zt_at (upd bl i 0) (zt_pass H B (i + 1)) ∧ zt_flag H B (i + 1) = true := by
  refine ⟨fun p hp => ?_, ?_⟩
  · show _ = zt_i (if p = i then (zt_pass H B i i && H (zt_pass H B i) i) else zt_pass H B i p)
    by_cases z : p = i
    · rw [if_pos z, z, e, e2, Bool.true_and, pk_us]; rfl
    · rw [if_neg z, pk_un z]; exact h p hp
  · show (zt_flag H B i || (zt_pass H B i i && !H (zt_pass H B i) i)) = true
    rw [e, e2, Bool.true_and, Bool.not_false, Bool.or_true]
theorem zt_rep1 {H : (Nat → Bool) → Nat → Bool} {B : Nat → Bool} {k : Nat} (h : zt_flag H B 256 = true) : zt_rep H (k + 1) B = zt_rep H k (zt_pass H B 256) := if_pos h
theorem zt_rep0 {H : (Nat → Bool) → Nat → Bool} {B : Nat → Bool} {k : Nat} (h : zt_flag H B 256 = false) : zt_rep H (k + 1) B = zt_pass H B 256 := if_neg (by rw [h]; decide)
/-! the rule, over the arrays of the state: shapes, arguments, results, field types (below 0: none), optional -/
def zt_fo (fl oq : Nat → Int32) (B : Nat → Bool) (a b : Nat) : Bool :=
  if fl b < 0 then true else if fl a < 0 then false else if (¬ oq a = 0 ∧ oq b = 0) then false else B ((fl a).toNatClampNeg * 16 + (fl b).toNatClampNeg)
def zt_rc (fl oq : Nat → Int32) (B : Nat → Bool) (s t : Nat) : Bool :=
  zt_fo fl oq B (s * 4) (t * 4) && (zt_fo fl oq B (s * 4 + 1) (t * 4 + 1) && (zt_fo fl oq B (s * 4 + 2) (t * 4 + 2) && zt_fo fl oq B (s * 4 + 3) (t * 4 + 3)))
def zt_h (sh ar rs fl oq : Nat → Int32) (B : Nat → Bool) (s t : Nat) : Bool :=
  if sh t = 2 then true else if sh s = 3 then true else if ¬ sh s = sh t then false
  else if sh s = 4 then (B ((ar t).toNatClampNeg * 16 + (ar s).toNatClampNeg) && B ((rs s).toNatClampNeg * 16 + (rs t).toNatClampNeg))
  else if sh s = 5 then zt_rc fl oq B s t else true
def zt_H (sh ar rs fl oq : Nat → Int32) (B : Nat → Bool) (p : Nat) : Bool := zt_h sh ar rs fl oq B (p / 16) (p % 16)
/-- what the state's arrays keep: shapes 0 .. 5, arguments and results types, a field none or a type -/
def zt_D (sh ar rs fl : Nat → Int32) : Prop :=
  (∀ i, i < 16 → ∃ j : Nat, j < 6 ∧ sh i = nI j) ∧ (∀ i, i < 16 → ∃ j : Nat, j < 16 ∧ ar i = nI j) ∧ (∀ i, i < 16 → ∃ j : Nat, j < 16 ∧ rs i = nI j) ∧ (∀ i, i < 64 → fl i < 0 ∨ ∃ j : Nat, j < 16 ∧ fl i = nI j)
/-- the fields of the types that are records now, on both sides -/
def zt_R (sh pr op ft fl oq : Nat → Int32) : Prop :=
  ∀ i l : Nat, i < 16 → l < 4 → sh i = 5 → (pr (i * 4 + l) = 0 ∧ fl (i * 4 + l) < 0) ∨ (¬ pr (i * 4 + l) = 0 ∧ ¬ fl (i * 4 + l) < 0 ∧ ft (i * 4 + l) = fl (i * 4 + l) ∧ op (i * 4 + l) = oq (i * 4 + l))
/-! what the calls count, over the relation G -/
def zt_eqv (G : Nat → Bool) (s t : Nat) : Bool := G (s * 16 + t) && G (t * 16 + s)
def zt_fst (G : Nat → Bool) (t : Nat) : Nat → Bool
  | 0 => true
  | s + 1 => zt_fst G t s && !zt_eqv G s t
def zt_kin (G : Nat → Bool) : Nat → Nat
  | 0 => 0
  | t + 1 => if zt_fst G t t = true then zt_kin G t + 1 else zt_kin G t
def zt_unr (G : Nat → Bool) (t : Nat) : Nat → Nat
  | 0 => 0
  | s + 1 => if (G (s * 16 + t) = false ∧ G (t * 16 + s) = false) then zt_unr G t s + 1 else zt_unr G t s
def zt_una (G : Nat → Bool) : Nat → Nat
  | 0 => 0
  | t + 1 => zt_una G t + zt_unr G t t
def zt_msk (G : Nat → Bool) (t : Nat) : Nat → Int32
  | 0 => 0
  | s + 1 => if G (s * 16 + t) = true then zt_msk G t s ||| ((1 : Int32) <<< (nI s &&& 31)) else zt_msk G t s
theorem zt_fst_f {G : Nat → Bool} {t s : Nat} (h : zt_fst G t s = false) : ∀ d : Nat, zt_fst G t (s + d) = false
  | 0 => h
  | d + 1 => by
    show (zt_fst G t (s + d) && !zt_eqv G (s + d) t) = false
    rw [zt_fst_f h d, Bool.false_and]
theorem zt_fst1 {G : Nat → Bool} {t s : Nat} (h : zt_eqv G s t = true) : zt_fst G t (s + 1) = false := by
  show (zt_fst G t s && !zt_eqv G s t) = false
  rw [h, Bool.not_true, Bool.and_false]
theorem zt_fst0 {G : Nat → Bool} {t s : Nat} (h : zt_eqv G s t = false) : zt_fst G t (s + 1) = zt_fst G t s := by
  show (zt_fst G t s && !zt_eqv G s t) = zt_fst G t s
  rw [h, Bool.not_false, Bool.and_true]
theorem zt_fstx {G : Nat → Bool} {t s : Nat} (hs : s < t) (h : zt_eqv G s t = true) : zt_fst G t t = false := by
  have := zt_fst_f (zt_fst1 h) (t - (s + 1))
  rwa [show s + 1 + (t - (s + 1)) = t from by omega] at this
theorem zt_kin1 {G : Nat → Bool} {t : Nat} (h : zt_fst G t t = true) : zt_kin G (t + 1) = zt_kin G t + 1 := if_pos h
theorem zt_kin0 {G : Nat → Bool} {t : Nat} (h : zt_fst G t t = false) : zt_kin G (t + 1) = zt_kin G t := if_neg (by rw [h]; decide)
theorem zt_unr1 {G : Nat → Bool} {t s : Nat} (h : G (s * 16 + t) = false) (h2 : G (t * 16 + s) = false) : zt_unr G t (s + 1) = zt_unr G t s + 1 := if_pos ⟨h, h2⟩
theorem zt_unrA {G : Nat → Bool} {t s : Nat} (h : G (s * 16 + t) = true) : zt_unr G t (s + 1) = zt_unr G t s := if_neg (fun z => by rw [h] at z; exact absurd z.1 (by decide))
theorem zt_unrB {G : Nat → Bool} {t s : Nat} (h : G (t * 16 + s) = true) : zt_unr G t (s + 1) = zt_unr G t s := if_neg (fun z => by rw [h] at z; exact absurd z.2 (by decide))
theorem zt_msk1 {G : Nat → Bool} {t s : Nat} (h : G (s * 16 + t) = true) : zt_msk G t (s + 1) = (zt_msk G t s ||| ((1 : Int32) <<< (nI s &&& 31))) := if_pos h
theorem zt_msk0 {G : Nat → Bool} {t s : Nat} (h : G (s * 16 + t) = false) : zt_msk G t (s + 1) = zt_msk G t s := if_neg (by rw [h]; decide)
/-! numbers: an index of a pair, of a slot -/
theorem zt_pr {s t : Nat} (hs : s < 16) (ht : t < 16) : s * 16 + t < 256 := by omega
theorem zt_px (s t : Nat) : nI s * 16 + nI t = nI (s * 16 + t) := by
  show nI s * nI 16 + nI t = _
  rw [pk_mul, nI_add]
theorem zt_sx (s t : Nat) : nI s * 4 + nI t = nI (s * 4 + t) := by
  show nI s * nI 4 + nI t = _
  rw [pk_mul, nI_add]
theorem zt_x4 (s : Nat) : nI s * 4 = nI (s * 4) := pk_mul s 4
theorem zt_d16 {p : Nat} (h : p < 256) : nI p / 16 = nI (p / 16) := pk_div (d := 16) (by omega) (by decide) (by decide)
theorem zt_r16 {p : Nat} (h : p < 256) : nI p - nI p / 16 * 16 = nI (p % 16) := pk_rem (d := 16) (by omega) (by decide) (by decide)
theorem zt_pp {s t : Nat} (ht : t < 16) : (s * 16 + t) / 16 = s ∧ (s * 16 + t) % 16 = t := by omega
/-- an Int32 is no type, or a type -/
theorem zt_ty (x : Int32) : (x < 0 ∧ ¬ 0 ≤ x) ∨ (¬ x < 0 ∧ 0 ≤ x ∧ ¬ x < 16 ∧ 16 ≤ x ∧ 15 < x ∧ ¬ x ≤ 15) ∨ ∃ j : Nat, j < 16 ∧ x = nI j := by
  rcases pk_ix x (n := 16) (by decide) with h | h | h
  · exact Or.inl ⟨h, Int32.not_le.mpr h⟩
  · refine Or.inr (Or.inl ?_)
    have h16 : (16 : Int32) ≤ x := h
    have e16 : (16 : Int32).toInt = 16 := by decide
    have e15 : (15 : Int32).toInt = 15 := by decide
    have e0 : (0 : Int32).toInt = 0 := by decide
    simp only [Int32.le_iff_toInt_le, Int32.lt_iff_toInt_lt, e16, e15, e0] at h16 ⊢
    omega
  · exact Or.inr (Or.inr h)
