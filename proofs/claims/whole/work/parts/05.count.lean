/-! the calls that ask: masks and counts over the relation, on both sides -/
theorem zt_tz (x : Int32) : (x < 0 ∨ 16 ≤ x) ∨ ∃ j : Nat, j < 16 ∧ x = nI j := by
  rcases pk_ix x (n := 16) (by decide) with h | h | h
  · exact Or.inl (Or.inl h)
  · exact Or.inl (Or.inr h)
  · exact Or.inr h
theorem zt_16 {i : Nat} (h : i < 16) : ¬ (16 : Int32) ≤ nI i := nI_ge (b := 16) h (by decide)
theorem zt_16e : (16 : Int32) ≤ nI 16 := nI_le (a := 16) (b := 16) (Nat.le_refl _) (by decide)
section
variable {sh ar rs pr op ft bl : Nat → Int32} {G : Nat → Bool}
theorem zx_msk {post : Int32 → SX → Prop} {t : Nat} (ht : t < 16) (hB : zt_at bl G) (hp : post (zt_msk G t 16) (sh, ar, rs, pr, op, ft, bl)) :
    ∀ (d s n : Nat), s + d = 16 → d < n → wX_subtypes_18 post (nI t) sh ar rs pr op ft bl n (zt_msk G t s) (nI s) := by
  intro d
  induction d with
  | zero =>
    intro s n e hn
    obtain ⟨m, rfl⟩ : ∃ m, n = m + 1 := ⟨n - 1, by omega⟩
    obtain rfl : s = 16 := by omega
    exact br_t zt_16e hp
  | succ d ih =>
    intro s n e hn
    obtain ⟨m, rfl⟩ : ∃ m, n = m + 1 := ⟨n - 1, by omega⟩
    have hs : s < 16 := by omega
    have hh := ih (s + 1) m (by omega) (by omega)
    refine br_f (zt_16 hs) (zx_bel hs ht hB ?_)
    cases q : G (s * 16 + t)
    · rw [zt_msk0 q] at hh
      exact br_t rfl (nm_r (nI_1 s) hh)
    · exact br_f (by decide) (nm_r (zt_msk1 q).symm (nm_r (nI_1 s) hh))
theorem zx_fsl {post : Int32 → Prop} {t : Nat} (ht : t < 16) (hB : zt_at bl G) (hp : post (zt_i (zt_fst G t t))) :
    ∀ (d s n : Nat), s + d = t → d < n → zt_fst G t s = true → wX_isFirstOfItsKind_2 post (nI t) sh ar rs pr op ft bl n (nI s) := by
  intro d
  induction d with
  | zero =>
    intro s n e hn hf
    obtain ⟨m, rfl⟩ : ∃ m, n = m + 1 := ⟨n - 1, by omega⟩
    obtain rfl : s = t := by omega
    rw [hf] at hp
    exact br_t (nI_le (Nat.le_refl _) (by omega)) hp
  | succ d ih =>
    intro s n e hn hf
    obtain ⟨m, rfl⟩ : ∃ m, n = m + 1 := ⟨n - 1, by omega⟩
    have hs : s < 16 := by omega
    refine br_f (nI_ge (by omega) (by omega)) (zx_bel hs ht hB ?_)
    cases q1 : G (s * 16 + t)
    · have e1 : zt_eqv G s t = false := by unfold zt_eqv; rw [q1, Bool.false_and]
      exact br_t rfl (nm_r (nI_1 s) (ih (s + 1) m (by omega) (by omega) (by rw [zt_fst0 e1]; exact hf)))
    refine br_f (by decide) (zx_bel ht hs hB ?_)
    cases q2 : G (t * 16 + s)
    · have e1 : zt_eqv G s t = false := by unfold zt_eqv; rw [q2, Bool.and_false]
      exact br_t rfl (nm_r (nI_1 s) (ih (s + 1) m (by omega) (by omega) (by rw [zt_fst0 e1]; exact hf)))
    · have e1 : zt_eqv G s t = true := by unfold zt_eqv; rw [q1, q2]; rfl
      rw [zt_fstx (by omega) e1] at hp
      exact br_f (by decide) hp
theorem zx_fst {post : Int32 → Prop} {t : Nat} (ht : t < 16) (hB : zt_at bl G) (hp : post (zt_i (zt_fst G t t))) : wpX_isFirstOfItsKind post (sh, ar, rs, pr, op, ft, bl) (nI t) := by
  have key : ∃ n : Nat, wX_isFirstOfItsKind_2 post (nI t) sh ar rs pr op ft bl n (nI 0) := ⟨t + 1, zx_fsl ht hB hp t 0 (t + 1) (by omega) (by omega) rfl⟩
  exact key
theorem zx_kin {post : Int32 → SX → Prop} (hB : zt_at bl G) (hp : post (nI (zt_kin G 16)) (sh, ar, rs, pr, op, ft, bl)) :
    ∀ (d t n : Nat), t + d = 16 → d < n → wX_kinds_8 post sh ar rs pr op ft bl n (nI (zt_kin G t)) (nI t) := by
  intro d
  induction d with
  | zero =>
    intro t n e hn
    obtain ⟨m, rfl⟩ : ∃ m, n = m + 1 := ⟨n - 1, by omega⟩
    obtain rfl : t = 16 := by omega
    exact br_t zt_16e hp
  | succ d ih =>
    intro t n e hn
    obtain ⟨m, rfl⟩ : ∃ m, n = m + 1 := ⟨n - 1, by omega⟩
    have ht : t < 16 := by omega
    have hh := ih (t + 1) m (by omega) (by omega)
    refine br_f (zt_16 ht) (zx_fst ht hB ?_)
    cases q : zt_fst G t t
    · rw [zt_kin0 q] at hh
      exact br_t rfl (nm_r (nI_1 t) hh)
    · refine br_f (by decide) (nm_r (e' := nI (zt_kin G (t + 1))) ?_ (nm_r (nI_1 t) hh))
      rw [zt_kin1 q, nI_1]
theorem zx_unr {post : Int32 → SX → Prop} {J : Int32 → Int32 → Prop} {t : Nat} (ht : t < 16) (hB : zt_at bl G) (hJ : J (nI (zt_una G (t + 1))) (nI (t + 1))) :
    ∀ (d s n : Nat), s + d = t → d < n → wX_unrelated_16 post J (nI t) sh ar rs pr op ft bl n (nI (zt_una G t + zt_unr G t s)) (nI s) := by
  intro d
  induction d with
  | zero =>
    intro s n e hn
    obtain ⟨m, rfl⟩ : ∃ m, n = m + 1 := ⟨n - 1, by omega⟩
    obtain rfl : s = t := by omega
    exact br_t (nI_le (Nat.le_refl _) (by omega)) (nm_r (nI_1 s) hJ)
  | succ d ih =>
    intro s n e hn
    obtain ⟨m, rfl⟩ : ∃ m, n = m + 1 := ⟨n - 1, by omega⟩
    have hs : s < 16 := by omega
    have hh := ih (s + 1) m (by omega) (by omega)
    refine br_f (nI_ge (by omega) (by omega)) (zx_bel hs ht hB ?_)
    cases q1 : G (s * 16 + t)
    · refine br_t rfl (zx_bel ht hs hB ?_)
      cases q2 : G (t * 16 + s)
      · refine br_t rfl (nm_r (e' := nI (zt_una G t + zt_unr G t (s + 1))) ?_ (nm_r (nI_1 s) hh))
        rw [zt_unr1 q1 q2, nI_1, Nat.add_assoc]
      · rw [zt_unrB q2] at hh
        exact br_f (by decide) (nm_r (nI_1 s) hh)
    · rw [zt_unrA q1] at hh
      exact br_f (by decide) (nm_r (nI_1 s) hh)
theorem zx_una {post : Int32 → SX → Prop} (hB : zt_at bl G) (hp : post (nI (zt_una G 16)) (sh, ar, rs, pr, op, ft, bl)) :
    ∀ (d t n : Nat), t + d = 16 → d < n → wX_unrelated_8 post sh ar rs pr op ft bl n (nI (zt_una G t)) (nI t) := by
  intro d
  induction d with
  | zero =>
    intro t n e hn
    obtain ⟨m, rfl⟩ : ∃ m, n = m + 1 := ⟨n - 1, by omega⟩
    obtain rfl : t = 16 := by omega
    exact br_t zt_16e hp
  | succ d ih =>
    intro t n e hn
    obtain ⟨m, rfl⟩ : ∃ m, n = m + 1 := ⟨n - 1, by omega⟩
    have ht : t < 16 := by omega
    exact br_f (zt_16 ht) ⟨t + 1, zx_unr ht hB (ih (t + 1) m (by omega) (by omega)) t 0 (t + 1) (by omega) (by omega)⟩
end
section
variable {sh ar rs fl oq : Nat → Int32} {G : Nat → Bool}
theorem zy_subG {post : Int32 → SY → Prop} {kn : Int32} {bw : Nat → Int32} {s t : Nat} (hG : G = zt_G (zt_H sh ar rs fl oq)) (hs : s < 16) (ht : t < 16) (hD : zt_D sh ar rs fl) (hK : zt_K kn bw G) (hp : ∀ (kn' : Int32) (bw' : Nat → Int32), zt_K kn' bw' G → post (zt_i (G (s * 16 + t))) (kn', sh, ar, rs, fl, oq, bw')) : wpY_subtype post (kn, sh, ar, rs, fl, oq, bw) (nI s) (nI t) := by
  subst hG
  exact zy_sub hs ht hD hK hp
theorem zy_eqvG {post : Int32 → SY → Prop} {kn : Int32} {bw : Nat → Int32} {s t : Nat} (hG : G = zt_G (zt_H sh ar rs fl oq)) (hs : s < 16) (ht : t < 16) (hD : zt_D sh ar rs fl) (hK : zt_K kn bw G) (hp : ∀ (kn' : Int32) (bw' : Nat → Int32), zt_K kn' bw' G → post (zt_i (zt_eqv G s t)) (kn', sh, ar, rs, fl, oq, bw')) : wpY_equivalent post (kn, sh, ar, rs, fl, oq, bw) (nI s) (nI t) := by
  subst hG
  exact zy_eqv hs ht hD hK hp
theorem zy_msk {post : Int32 → SY → Prop} {t : Nat} (hG : G = zt_G (zt_H sh ar rs fl oq)) (hD : zt_D sh ar rs fl) (ht : t < 16) (hp : ∀ (kn' : Int32) (bw' : Nat → Int32), zt_K kn' bw' G → post (zt_msk G t 16) (kn', sh, ar, rs, fl, oq, bw')) :
    ∀ (d s n : Nat) (kn : Int32) (bw : Nat → Int32), s + d = 16 → d < n → zt_K kn bw G → wY_subtypes_14 post (nI t) n (zt_msk G t s) (nI s) kn sh ar rs fl oq bw := by
  intro d
  induction d with
  | zero =>
    intro s n kn bw e hn hK
    obtain ⟨m, rfl⟩ : ∃ m, n = m + 1 := ⟨n - 1, by omega⟩
    obtain rfl : s = 16 := by omega
    exact br_t zt_16e (hp kn bw hK)
  | succ d ih =>
    intro s n kn bw e hn hK
    obtain ⟨m, rfl⟩ : ∃ m, n = m + 1 := ⟨n - 1, by omega⟩
    have hs : s < 16 := by omega
    refine br_f (zt_16 hs) (zy_subG hG hs ht hD hK (fun k1 b1 h1 => ?_))
    have hh := ih (s + 1) m k1 b1 (by omega) (by omega) h1
    dsimp only
    cases q : G (s * 16 + t)
    · rw [zt_msk0 q] at hh
      exact br_t rfl (nm_r (nI_1 s) hh)
    · exact br_f (by decide) (nm_r (zt_msk1 q).symm (nm_r (nI_1 s) hh))
theorem zy_fst {post : Int32 → SY → Prop} {J : Int32 → Int32 → Int32 → (Nat → Int32) → (Nat → Int32) → (Nat → Int32) → (Nat → Int32) → (Nat → Int32) → (Nat → Int32) → Prop} {t : Nat} (hG : G = zt_G (zt_H sh ar rs fl oq)) (hD : zt_D sh ar rs fl) (ht : t < 16) (hJ : ∀ (kn' : Int32) (bw' : Nat → Int32), zt_K kn' bw' G → J (nI (zt_kin G (t + 1))) (nI (t + 1)) kn' sh ar rs fl oq bw') :
    ∀ (d s n : Nat) (kn : Int32) (bw : Nat → Int32), s + d = t → d < n → zt_K kn bw G → wY_kinds_15 post J (nI (zt_kin G t)) (nI t) n (zt_i (zt_fst G t s)) (nI s) kn sh ar rs fl oq bw := by
  intro d
  induction d with
  | zero =>
    intro s n kn bw e hn hK
    obtain ⟨m, rfl⟩ : ∃ m, n = m + 1 := ⟨n - 1, by omega⟩
    obtain rfl : s = t := by omega
    have hh := hJ kn bw hK
    refine br_t (nI_le (Nat.le_refl _) (by omega)) ?_
    cases q : zt_fst G s s
    · rw [zt_kin0 q] at hh
      exact br_t rfl (nm_r (nI_1 s) hh)
    · refine br_f (by decide) (nm_r (e' := nI (zt_kin G (s + 1))) ?_ (nm_r (nI_1 s) hh))
      rw [zt_kin1 q, nI_1]
  | succ d ih =>
    intro s n kn bw e hn hK
    obtain ⟨m, rfl⟩ : ∃ m, n = m + 1 := ⟨n - 1, by omega⟩
    have hs : s < 16 := by omega
    refine br_f (nI_ge (by omega) (by omega)) (zy_eqvG hG hs ht hD hK (fun k1 b1 h1 => ?_))
    have hh := ih (s + 1) m k1 b1 (by omega) (by omega) h1
    dsimp only
    cases q : zt_eqv G s t
    · rw [zt_fst0 q] at hh
      exact br_t rfl (nm_r (nI_1 s) hh)
    · rw [zt_fst1 q] at hh
      exact br_f (by decide) (nm_r (nI_1 s) hh)
theorem zy_kin {post : Int32 → SY → Prop} (hG : G = zt_G (zt_H sh ar rs fl oq)) (hD : zt_D sh ar rs fl) (hp : ∀ (kn' : Int32) (bw' : Nat → Int32), zt_K kn' bw' G → post (nI (zt_kin G 16)) (kn', sh, ar, rs, fl, oq, bw')) :
    ∀ (d t n : Nat) (kn : Int32) (bw : Nat → Int32), t + d = 16 → d < n → zt_K kn bw G → wY_kinds_4 post n (nI (zt_kin G t)) (nI t) kn sh ar rs fl oq bw := by
  intro d
  induction d with
  | zero =>
    intro t n kn bw e hn hK
    obtain ⟨m, rfl⟩ : ∃ m, n = m + 1 := ⟨n - 1, by omega⟩
    obtain rfl : t = 16 := by omega
    exact br_t zt_16e (hp kn bw hK)
  | succ d ih =>
    intro t n kn bw e hn hK
    obtain ⟨m, rfl⟩ : ∃ m, n = m + 1 := ⟨n - 1, by omega⟩
    have ht : t < 16 := by omega
    exact br_f (zt_16 ht) ⟨t + 1, zy_fst hG hD ht (fun k1 b1 h1 => ih (t + 1) m k1 b1 (by omega) (by omega) h1) t 0 (t + 1) kn bw (by omega) (by omega) hK⟩
theorem zy_unr {post : Int32 → SY → Prop} {J : Int32 → Int32 → Int32 → (Nat → Int32) → (Nat → Int32) → (Nat → Int32) → (Nat → Int32) → (Nat → Int32) → (Nat → Int32) → Prop} {t : Nat} (hG : G = zt_G (zt_H sh ar rs fl oq)) (hD : zt_D sh ar rs fl) (ht : t < 16) (hJ : ∀ (kn' : Int32) (bw' : Nat → Int32), zt_K kn' bw' G → J (nI (zt_una G (t + 1))) (nI (t + 1)) kn' sh ar rs fl oq bw') :
    ∀ (d s n : Nat) (kn : Int32) (bw : Nat → Int32), s + d = t → d < n → zt_K kn bw G → wY_unrelated_12 post J (nI t) n (nI (zt_una G t + zt_unr G t s)) (nI s) kn sh ar rs fl oq bw := by
  intro d
  induction d with
  | zero =>
    intro s n kn bw e hn hK
    obtain ⟨m, rfl⟩ : ∃ m, n = m + 1 := ⟨n - 1, by omega⟩
    obtain rfl : s = t := by omega
    exact br_t (nI_le (Nat.le_refl _) (by omega)) (nm_r (nI_1 s) (hJ kn bw hK))
  | succ d ih =>
    intro s n kn bw e hn hK
    obtain ⟨m, rfl⟩ : ∃ m, n = m + 1 := ⟨n - 1, by omega⟩
    have hs : s < 16 := by omega
    refine br_f (nI_ge (by omega) (by omega)) (zy_subG hG hs ht hD hK (fun k1 b1 h1 => ?_))
    dsimp only
    cases q1 : G (s * 16 + t)
    · refine br_t rfl (zy_subG hG ht hs hD h1 (fun k2 b2 h2 => ?_))
      have hh := ih (s + 1) m k2 b2 (by omega) (by omega) h2
      dsimp only
      cases q2 : G (t * 16 + s)
      · refine br_t rfl (nm_r (e' := nI (zt_una G t + zt_unr G t (s + 1))) ?_ (nm_r (nI_1 s) hh))
        rw [zt_unr1 q1 q2, nI_1, Nat.add_assoc]
      · rw [zt_unrB q2] at hh
        exact br_f (by decide) (nm_r (nI_1 s) hh)
    · have hh := ih (s + 1) m k1 b1 (by omega) (by omega) h1
      rw [zt_unrA q1] at hh
      exact br_f (by decide) (nm_r (nI_1 s) hh)
theorem zy_una {post : Int32 → SY → Prop} (hG : G = zt_G (zt_H sh ar rs fl oq)) (hD : zt_D sh ar rs fl) (hp : ∀ (kn' : Int32) (bw' : Nat → Int32), zt_K kn' bw' G → post (nI (zt_una G 16)) (kn', sh, ar, rs, fl, oq, bw')) :
    ∀ (d t n : Nat) (kn : Int32) (bw : Nat → Int32), t + d = 16 → d < n → zt_K kn bw G → wY_unrelated_4 post n (nI (zt_una G t)) (nI t) kn sh ar rs fl oq bw := by
  intro d
  induction d with
  | zero =>
    intro t n kn bw e hn hK
    obtain ⟨m, rfl⟩ : ∃ m, n = m + 1 := ⟨n - 1, by omega⟩
    obtain rfl : t = 16 := by omega
    exact br_t zt_16e (hp kn bw hK)
  | succ d ih =>
    intro t n kn bw e hn hK
    obtain ⟨m, rfl⟩ : ∃ m, n = m + 1 := ⟨n - 1, by omega⟩
    have ht : t < 16 := by omega
    exact br_f (zt_16 ht) ⟨t + 1, zy_unr hG hD ht (fun k1 b1 h1 => ih (t + 1) m k1 b1 (by omega) (by omega) h1) t 0 (t + 1) kn bw (by omega) (by omega) hK⟩
end
