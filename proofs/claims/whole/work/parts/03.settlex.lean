/-! the component's settle: it ends with the pure relation in its array -/
theorem zt_256 {i : Nat} (h : i < 256) : ¬ (256 : Int32) ≤ nI i := nI_ge (b := 256) h (by decide)
section
variable {sh ar rs pr op ft fl oq : Nat → Int32}
theorem zx_in {post : SX → Prop} {J : Int32 → Int32 → (Nat → Int32) → (Nat → Int32) → (Nat → Int32) → (Nat → Int32) → (Nat → Int32) → (Nat → Int32) → (Nat → Int32) → Prop} {x2 : Int32} {B0 : Nat → Bool} (hR : zt_R sh pr op ft fl oq) (hD : zt_D sh ar rs fl)
    (hJ : ∀ bl' : Nat → Int32, zt_at bl' (zt_pass (zt_H sh ar rs fl oq) B0 256) → J (zt_i (zt_flag (zt_H sh ar rs fl oq) B0 256)) (x2 + 1) sh ar rs pr op ft bl') :
    ∀ (d i n : Nat) (bl : Nat → Int32), i + d = 256 → d < n → zt_at bl (zt_pass (zt_H sh ar rs fl oq) B0 i) → wX_settle_41 post J x2 n (zt_i (zt_flag (zt_H sh ar rs fl oq) B0 i)) (nI i) sh ar rs pr op ft bl := by
  intro d
  induction d with
  | zero =>
    intro i n bl e hn hb
    obtain ⟨m, rfl⟩ : ∃ m, n = m + 1 := ⟨n - 1, by omega⟩
    obtain rfl : i = 256 := by omega
    exact br_t (show (256 : Int32) ≤ nI 256 by decide) (nm_e (hJ bl hb))
  | succ d ih =>
    intro i n bl e hn hb
    obtain ⟨m, rfl⟩ : ∃ m, n = m + 1 := ⟨n - 1, by omega⟩
    have hi : i < 256 := by omega
    have ci : (nI i).toNatClampNeg = i := nI_clamp (by omega)
    have ii : vp_in (nI i) 256 := vp_in_nI hi (by decide)
    refine br_f (zt_256 hi) ⟨ii, ?_⟩
    rw [ci, hb i hi]
    cases q : zt_pass (zt_H sh ar rs fl oq) B0 i i
    · obtain ⟨h1, h2⟩ := zt_s0 hb q
      refine br_t rfl (nm_r (nI_1 i) ?_)
      have := ih (i + 1) m bl (by omega) (by omega) h1
      rw [h2] at this
      exact this
    · refine br_f (by decide) ⟨by decide, by decide, ?_⟩
      rw [zt_r16 hi, zt_d16 hi]
      refine zx_rule (by omega) (by omega) hR hD hb ?_
      cases q2 : zt_h sh ar rs fl oq (zt_pass (zt_H sh ar rs fl oq) B0 i) (i / 16) (i % 16)
      · obtain ⟨h1, h2⟩ := zt_s2 hb q q2
        refine br_t rfl ⟨ii, nm_r (e' := upd bl i 0) rfl (nm_r (nI_1 i) ?_)⟩
        have := ih (i + 1) m (upd bl i 0) (by omega) (by omega) h1
        rw [h2] at this
        exact this
      · obtain ⟨h1, h2⟩ := zt_s1 hb q q2
        refine br_f (by decide) (nm_r (nI_1 i) ?_)
        have := ih (i + 1) m bl (by omega) (by omega) h1
        rw [h2] at this
        exact this
theorem zx_out {post : SX → Prop} (hR : zt_R sh pr op ft fl oq) (hD : zt_D sh ar rs fl) :
    ∀ (k r n : Nat) (B0 : Nat → Bool) (bl : Nat → Int32), r + k = 257 → k + 1 < n → zt_at bl B0 → (∀ bl' : Nat → Int32, zt_at bl' (zt_rep (zt_H sh ar rs fl oq) k B0) → post (sh, ar, rs, pr, op, ft, bl')) → wX_settle_26 post n 1 (nI r) sh ar rs pr op ft bl := by
  intro k
  induction k with
  | zero =>
    intro r n B0 bl e hn hb hp
    obtain ⟨m, rfl⟩ : ∃ m, n = m + 1 := ⟨n - 1, by omega⟩
    obtain rfl : r = 257 := by omega
    exact br_f (by decide) (br_t (show (256 : Int32) < nI 257 by decide) (hp bl hb))
  | succ k ih =>
    intro r n B0 bl e hn hb hp
    obtain ⟨m, rfl⟩ : ∃ m, n = m + 2 := ⟨n - 2, by omega⟩
    refine br_f (by decide) (br_f (show ¬ (256 : Int32) < nI r from nI_nlt (a := 256) (b := r) (by omega) (by decide)) ⟨257, ?_⟩)
    refine zx_in (B0 := B0) hR hD (fun bl' hb' => ?_) 256 0 257 bl rfl (by decide) hb
    cases q : zt_flag (zt_H sh ar rs fl oq) B0 256
    · exact br_t rfl (hp bl' (by rw [zt_rep0 q]; exact hb'))
    · rw [nI_1]
      exact ih (r + 1) (m + 1) _ bl' (by omega) (by omega) hb' (fun b h => hp b (by rw [zt_rep1 q]; exact h))
theorem zx_fill {post : SX → Prop} (hk : ∀ bl' : Nat → Int32, zt_at bl' (fun _ => true) → ∃ n : Nat, wX_settle_26 post n 1 0 sh ar rs pr op ft bl') :
    ∀ (d i n : Nat) (bl : Nat → Int32), i + d = 256 → d < n → (∀ p, p < i → bl p = 1) → wX_settle_2 post n (nI i) sh ar rs pr op ft bl := by
  intro d
  induction d with
  | zero =>
    intro i n bl e hn hb
    obtain ⟨m, rfl⟩ : ∃ m, n = m + 1 := ⟨n - 1, by omega⟩
    obtain rfl : i = 256 := by omega
    exact br_t (show (256 : Int32) ≤ nI 256 by decide) (hk bl (fun p hp => hb p hp))
  | succ d ih =>
    intro i n bl e hn hb
    obtain ⟨m, rfl⟩ : ∃ m, n = m + 1 := ⟨n - 1, by omega⟩
    have hi : i < 256 := by omega
    have ci : (nI i).toNatClampNeg = i := nI_clamp (by omega)
    refine br_f (zt_256 hi) ⟨vp_in_nI hi (by decide), nm_r (e' := upd bl i 1) (by rw [ci]; rfl) (nm_r (nI_1 i) ?_)⟩
    refine ih (i + 1) m (upd bl i 1) (by omega) (by omega) (fun p hp => ?_)
    by_cases z : p = i
    · rw [z, pk_us]
    · rw [pk_un z]; exact hb p (by omega)
theorem zx_settle {post : SX → Prop} {bl : Nat → Int32} (hR : zt_R sh pr op ft fl oq) (hD : zt_D sh ar rs fl) (hp : ∀ bl' : Nat → Int32, zt_at bl' (zt_G (zt_H sh ar rs fl oq)) → post (sh, ar, rs, pr, op, ft, bl')) : wpX_settle post (sh, ar, rs, pr, op, ft, bl) := by
  have key : ∃ n : Nat, wX_settle_2 post n (nI 0) sh ar rs pr op ft bl := by
    refine ⟨257, zx_fill (fun bl' hb' => ⟨259, ?_⟩) 256 0 257 bl rfl (by decide) (fun p hp => absurd hp (Nat.not_lt_zero p))⟩
    exact zx_out hR hD 257 0 259 (fun _ => true) bl' rfl (by decide) hb' hp
  exact key
end
