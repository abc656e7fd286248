/-! the reference's rule and its strike, against the same pure picture -/
theorem zy_bad {post : Int32 → Prop} {u : SY} {i : Nat} (hi : i < 16) (h : post 0) : wpY_bad post u (nI i) := by
  obtain ⟨a1, a2, a3, a4, a5, a6, a7⟩ := u
  exact br_f (nI_pos (by omega)) (br_t (show nI i ≤ (15 : Int32) from nI_le (b := 15) (by omega) (by decide)) h)
theorem zy_badN {post : Int32 → Prop} {u : SY} {x : Int32} (hx : x < 0 ∨ 16 ≤ x) (h : post 1) : wpY_bad post u x := by
  obtain ⟨a1, a2, a3, a4, a5, a6, a7⟩ := u
  by_cases z : x < 0
  · exact br_t z h
  · have h16 := hx.resolve_left z
    have n15 : ¬ x ≤ 15 := by
      have e16 : (16 : Int32).toInt = 16 := by decide
      have e15 : (15 : Int32).toInt = 15 := by decide
      rw [Int32.le_iff_toInt_le] at h16 ⊢
      omega
    exact br_f z (br_f n15 h)
section
variable {kn : Int32} {sh ar rs fl oq bw : Nat → Int32} {B : Nat → Bool}
theorem zy_fo {post : Int32 → Prop} {a b : Nat} (ha : a < 64) (hb : b < 64) (hD : zt_D sh ar rs fl) (hB : zt_at bw B) (h : post (zt_i (zt_fo fl oq B a b))) : wpY_fieldOk post (kn, sh, ar, rs, fl, oq, bw) (nI a) (nI b) := by
  have ca : (nI a).toNatClampNeg = a := nI_clamp (by omega)
  have cb : (nI b).toNatClampNeg = b := nI_clamp (by omega)
  have ia : vp_in (nI a) 64 := vp_in_nI ha (by decide)
  have ib : vp_in (nI b) 64 := vp_in_nI hb (by decide)
  have hv : ∀ r : Bool, zt_fo fl oq B a b = r → post (zt_i r) := fun r e => by rw [e] at h; exact h
  unfold wpY_fieldOk
  dsimp only
  simp only [ca, cb]
  refine ⟨ib, ?_⟩
  rcases hD.2.2.2 b hb with fb | ⟨j, hj, ej⟩
  · exact br_f (Int32.not_le.mpr fb) (hv true (by unfold zt_fo; rw [if_pos fb]))
  · have nb : ¬ fl b < 0 := by rw [ej]; exact nI_pos (by omega)
    refine br_t (Int32.not_lt.mp nb) ⟨ia, ?_⟩
    rcases hD.2.2.2 a ha with fa | ⟨i, hi, ei⟩
    · exact br_t fa (hv false (by unfold zt_fo; rw [if_neg nb, if_pos fa]))
    · have na : ¬ fl a < 0 := by rw [ei]; exact nI_pos (by omega)
      refine br_f na ⟨ia, ?_⟩
      have h40 : ∀ c : ¬ (¬ oq a = 0 ∧ oq b = 0), wY_fieldOk_40 post (nI a) (nI b) kn sh ar rs fl oq bw := by
        intro c
        have e : zt_fo fl oq B a b = B (i * 16 + j) := by
          unfold zt_fo
          rw [if_neg nb, if_neg na, if_neg c, ei, ej, nI_clamp (n := i) (by omega), nI_clamp (n := j) (by omega)]
        unfold wY_fieldOk_40
        rw [ca, cb, ei, ej, zt_px, nI_clamp (n := i * 16 + j) (by omega), hB _ (zt_pr hi hj)]
        exact ⟨ia, ib, vp_in_nI (zt_pr hi hj) (by decide), zt_nar _, hv _ e⟩
      refine br_c (fun c => h40 (fun z => z.1 c)) (fun c => ⟨ib, br_c (fun c2 => hv false ?_) (fun c2 => h40 (fun z => c2 z.2))⟩)
      unfold zt_fo
      rw [if_neg nb, if_neg na, if_pos ⟨c, c2⟩]
theorem zy_rec {post : Int32 → Prop} {s t : Nat} (hs : s < 16) (ht : t < 16) (hD : zt_D sh ar rs fl) (hB : zt_at bw B) (h : post (zt_i (zt_rc fl oq B s t))) :
    wpY_fieldOk (fun r1 => (r1 = 0 → post 0) ∧ (¬ r1 = 0 → wpY_fieldOk (fun r2 => (r2 = 0 → post 0) ∧ (¬ r2 = 0 → wpY_fieldOk (fun r3 => (r3 = 0 → post 0) ∧ (¬ r3 = 0 → wpY_fieldOk (fun r4 => (r4 = 0 → post 0) ∧ (¬ r4 = 0 → post 1)) (kn, sh, ar, rs, fl, oq, bw) (nI s * 4 + 3) (nI t * 4 + 3))) (kn, sh, ar, rs, fl, oq, bw) (nI s * 4 + 2) (nI t * 4 + 2))) (kn, sh, ar, rs, fl, oq, bw) (nI s * 4 + 1) (nI t * 4 + 1))) (kn, sh, ar, rs, fl, oq, bw) (nI s * 4) (nI t * 4) := by
  have hv : ∀ r : Bool, zt_rc fl oq B s t = r → post (zt_i r) := fun r e => by rw [e] at h; exact h
  have m1 : ∀ x : Nat, nI x * 4 + 1 = nI (x * 4 + 1) := fun x => zt_sx x 1
  have m2 : ∀ x : Nat, nI x * 4 + 2 = nI (x * 4 + 2) := fun x => zt_sx x 2
  have m3 : ∀ x : Nat, nI x * 4 + 3 = nI (x * 4 + 3) := fun x => zt_sx x 3
  rw [m1 s, m1 t, m2 s, m2 t, m3 s, m3 t, zt_x4 s, zt_x4 t]
  refine zy_fo (by omega) (by omega) hD hB ?_
  cases q0 : zt_fo fl oq B (s * 4) (t * 4)
  · exact br_t rfl (hv false (by unfold zt_rc; rw [q0, Bool.false_and]))
  refine br_f (by decide) (zy_fo (by omega) (by omega) hD hB ?_)
  cases q1 : zt_fo fl oq B (s * 4 + 1) (t * 4 + 1)
  · exact br_t rfl (hv false (by unfold zt_rc; rw [q1, Bool.false_and, Bool.and_false]))
  refine br_f (by decide) (zy_fo (by omega) (by omega) hD hB ?_)
  cases q2 : zt_fo fl oq B (s * 4 + 2) (t * 4 + 2)
  · exact br_t rfl (hv false (by unfold zt_rc; rw [q2, Bool.false_and, Bool.and_false, Bool.and_false]))
  refine br_f (by decide) (zy_fo (by omega) (by omega) hD hB ?_)
  cases q3 : zt_fo fl oq B (s * 4 + 3) (t * 4 + 3)
  · exact br_t rfl (hv false (by unfold zt_rc; rw [q3, Bool.and_false, Bool.and_false, Bool.and_false]))
  · exact br_f (by decide) (hv true (by unfold zt_rc; rw [q0, q1, q2, q3]; rfl))
theorem zy_rule {post : Int32 → Prop} {s t : Nat} (hs : s < 16) (ht : t < 16) (hD : zt_D sh ar rs fl) (hB : zt_at bw B) (h : post (zt_i (zt_h sh ar rs fl oq B s t))) : wpY_holds post (kn, sh, ar, rs, fl, oq, bw) (nI s) (nI t) := by
  have cs : (nI s).toNatClampNeg = s := nI_clamp (by omega)
  have ct : (nI t).toNatClampNeg = t := nI_clamp (by omega)
  have is : vp_in (nI s) 16 := vp_in_nI hs (by decide)
  have it : vp_in (nI t) 16 := vp_in_nI ht (by decide)
  have hv : ∀ b : Bool, zt_h sh ar rs fl oq B s t = b → post (zt_i b) := fun b e => by rw [e] at h; exact h
  unfold wpY_holds
  dsimp only
  simp only [cs, ct]
  refine ⟨it, br_c (fun c1 => hv true ?_) (fun c1 => ⟨is, br_c (fun c2 => hv true ?_) (fun c2 => ⟨is, it, br_c (fun c3 => ⟨is, br_c (fun c4 => ⟨it, is, ?_⟩) (fun c4 => ⟨is, br_c (fun c5 => ?_) (fun c5 => ⟨is, ?_⟩)⟩)⟩) (fun c3 => hv false ?_)⟩)⟩)⟩
  · unfold zt_h; rw [if_pos c1]
  · unfold zt_h; rw [if_neg c1, if_pos c2]
  · obtain ⟨a, ha, ea⟩ := hD.2.1 s hs
    obtain ⟨b, hb, eb⟩ := hD.2.1 t ht
    obtain ⟨c, hc, ec⟩ := hD.2.2.1 s hs
    obtain ⟨d, hd, ed⟩ := hD.2.2.1 t ht
    have e : zt_h sh ar rs fl oq B s t = (B (b * 16 + a) && B (c * 16 + d)) := by
      unfold zt_h
      rw [if_neg c1, if_neg c2, if_neg (not_not_intro c3), if_pos c4, ea, eb, ec, ed, nI_clamp (n := a) (by omega), nI_clamp (n := b) (by omega), nI_clamp (n := c) (by omega), nI_clamp (n := d) (by omega)]
    rw [ea, eb, ec, ed, zt_px b a, zt_px c d, nI_clamp (n := b * 16 + a) (by omega), nI_clamp (n := c * 16 + d) (by omega), hB _ (zt_pr hb ha), hB _ (zt_pr hc hd)]
    refine ⟨vp_in_nI (zt_pr hb ha) (by decide), ?_⟩
    cases q1 : B (b * 16 + a)
    · exact br_t rfl (hv false (by rw [e, q1, Bool.false_and]))
    · refine br_f (by decide) ⟨is, it, vp_in_nI (zt_pr hc hd) (by decide), ?_⟩
      cases q2 : B (c * 16 + d)
      · exact br_t rfl (hv false (by rw [e, q2, Bool.and_false]))
      · exact br_f (by decide) (hv true (by rw [e, q1, q2]; rfl))
  · have e : zt_h sh ar rs fl oq B s t = zt_rc fl oq B s t := by
      unfold zt_h
      rw [if_neg c1, if_neg c2, if_neg (not_not_intro c3), if_neg c4, if_pos c5]
    rw [e] at h
    exact zy_rec hs ht hD hB h
  · have e : zt_h sh ar rs fl oq B s t = true := by
      unfold zt_h; rw [if_neg c1, if_neg c2, if_neg (not_not_intro c3), if_neg c4, if_neg c5]
    have h01 : sh s = 0 ∨ sh s = 1 := by
      obtain ⟨j, hj, ej⟩ := hD.1 s hs
      have hj' : j = 0 ∨ j = 1 ∨ j = 2 ∨ j = 3 ∨ j = 4 ∨ j = 5 := by omega
      rcases hj' with rfl | rfl | rfl | rfl | rfl | rfl
      · exact Or.inl ej
      · exact Or.inr ej
      · exact absurd (c3.symm.trans ej) c1
      · exact absurd ej c2
      · exact absurd ej c4
      · exact absurd ej c5
    exact br_c (fun _ => hv true e) (fun c6 => ⟨is, br_t (h01.resolve_left c6) (hv true e)⟩)
  · unfold zt_h; rw [if_neg c1, if_neg c2, if_pos c3]
end
section
variable {kn : Int32} {sh ar rs fl oq : Nat → Int32}
theorem zy_in {post : SY → Prop} {J : Int32 → Int32 → (Nat → Int32) → (Nat → Int32) → (Nat → Int32) → (Nat → Int32) → (Nat → Int32) → (Nat → Int32) → Prop} {x2 : Int32} {B0 : Nat → Bool} (hD : zt_D sh ar rs fl)
    (hJ : ∀ bw' : Nat → Int32, zt_at bw' (zt_pass (zt_H sh ar rs fl oq) B0 256) → J (zt_i (zt_flag (zt_H sh ar rs fl oq) B0 256)) (x2 + 1) sh ar rs fl oq bw') :
    ∀ (d i n : Nat) (bw : Nat → Int32), i + d = 256 → d < n → zt_at bw (zt_pass (zt_H sh ar rs fl oq) B0 i) → wY_strike_54 post J x2 kn n (zt_i (zt_flag (zt_H sh ar rs fl oq) B0 i)) (nI i) sh ar rs fl oq bw := by
  intro d
  induction d with
  | zero =>
    intro i n bw e hn hb
    obtain ⟨m, rfl⟩ : ∃ m, n = m + 1 := ⟨n - 1, by omega⟩
    obtain rfl : i = 256 := by omega
    exact br_t (show (256 : Int32) ≤ nI 256 by decide) (nm_e (hJ bw hb))
  | succ d ih =>
    intro i n bw e hn hb
    obtain ⟨m, rfl⟩ : ∃ m, n = m + 1 := ⟨n - 1, by omega⟩
    have hi : i < 256 := by omega
    have ci : (nI i).toNatClampNeg = i := nI_clamp (by omega)
    have ii : vp_in (nI i) 256 := vp_in_nI hi (by decide)
    refine br_f (zt_256 hi) ⟨ii, ?_⟩
    rw [ci, hb i hi]
    cases q : zt_pass (zt_H sh ar rs fl oq) B0 i i
    · obtain ⟨h1, h2⟩ := zt_s0 hb q
      refine br_t rfl (nm_r (nI_1 i) ?_)
      have := ih (i + 1) m bw (by omega) (by omega) h1
      rw [h2] at this
      exact this
    · refine br_f (by decide) ⟨by decide, by decide, ?_⟩
      rw [zt_r16 hi, zt_d16 hi]
      refine zy_rule (by omega) (by omega) hD hb ?_
      cases q2 : zt_h sh ar rs fl oq (zt_pass (zt_H sh ar rs fl oq) B0 i) (i / 16) (i % 16)
      · obtain ⟨h1, h2⟩ := zt_s2 hb q q2
        refine br_t rfl ⟨ii, nm_r (e' := upd bw i 0) rfl (nm_r (nI_1 i) ?_)⟩
        have := ih (i + 1) m (upd bw i 0) (by omega) (by omega) h1
        rw [h2] at this
        exact this
      · obtain ⟨h1, h2⟩ := zt_s1 hb q q2
        refine br_f (by decide) (nm_r (nI_1 i) ?_)
        have := ih (i + 1) m bw (by omega) (by omega) h1
        rw [h2] at this
        exact this
theorem zy_out {post : SY → Prop} (hD : zt_D sh ar rs fl) :
    ∀ (k r n : Nat) (B0 : Nat → Bool) (bw : Nat → Int32), r + k = 257 → k + 1 < n → zt_at bw B0 → (∀ bw' : Nat → Int32, zt_at bw' (zt_rep (zt_H sh ar rs fl oq) k B0) → post (kn, sh, ar, rs, fl, oq, bw')) → wY_strike_39 post kn n 1 (nI r) sh ar rs fl oq bw := by
  intro k
  induction k with
  | zero =>
    intro r n B0 bw e hn hb hp
    obtain ⟨m, rfl⟩ : ∃ m, n = m + 1 := ⟨n - 1, by omega⟩
    obtain rfl : r = 257 := by omega
    exact br_t (show (257 : Int32) ≤ nI 257 by decide) (hp bw hb)
  | succ k ih =>
    intro r n B0 bw e hn hb hp
    obtain ⟨m, rfl⟩ : ∃ m, n = m + 2 := ⟨n - 2, by omega⟩
    refine br_f (show ¬ (257 : Int32) ≤ nI r from nI_ge (b := 257) (by omega) (by decide)) (br_f (by decide) ⟨257, ?_⟩)
    refine zy_in (B0 := B0) hD (fun bw' hb' => ?_) 256 0 257 bw rfl (by decide) hb
    rw [nI_1]
    cases q : zt_flag (zt_H sh ar rs fl oq) B0 256
    · have hp' : post (kn, sh, ar, rs, fl, oq, bw') := hp bw' (by rw [zt_rep0 q]; exact hb')
      exact br_c (fun _ => hp') (fun _ => br_t rfl hp')
    · exact ih (r + 1) (m + 1) _ bw' (by omega) (by omega) hb' (fun b h => hp b (by rw [zt_rep1 q]; exact h))
theorem zy_fill {post : SY → Prop} (hk : ∀ bw' : Nat → Int32, zt_at bw' (fun _ => true) → ∃ n : Nat, wY_strike_39 post kn n 1 0 sh ar rs fl oq bw') :
    ∀ (d i n : Nat) (bw : Nat → Int32), i + d = 256 → d < n → (∀ p, p < i → bw p = 1) → wY_strike_15 post kn n (nI i) sh ar rs fl oq bw := by
  intro d
  induction d with
  | zero =>
    intro i n bw e hn hb
    obtain ⟨m, rfl⟩ : ∃ m, n = m + 1 := ⟨n - 1, by omega⟩
    obtain rfl : i = 256 := by omega
    exact br_t (show (256 : Int32) ≤ nI 256 by decide) (hk bw (fun p hp => hb p hp))
  | succ d ih =>
    intro i n bw e hn hb
    obtain ⟨m, rfl⟩ : ∃ m, n = m + 1 := ⟨n - 1, by omega⟩
    have hi : i < 256 := by omega
    have ci : (nI i).toNatClampNeg = i := nI_clamp (by omega)
    refine br_f (zt_256 hi) ⟨vp_in_nI hi (by decide), nm_r (e' := upd bw i 1) (by rw [ci]; rfl) (nm_r (nI_1 i) ?_)⟩
    refine ih (i + 1) m (upd bw i 1) (by omega) (by omega) (fun p hp => ?_)
    by_cases z : p = i
    · rw [z, pk_us]
    · rw [pk_un z]; exact hb p (by omega)
/-- the state keeps the relation, if it calls it known -/
def zt_K (kn : Int32) (bw : Nat → Int32) (G : Nat → Bool) : Prop := ¬ kn = 0 → zt_at bw G
theorem zy_strike {post : SY → Prop} {bw : Nat → Int32} (hD : zt_D sh ar rs fl) (hK : zt_K kn bw (zt_G (zt_H sh ar rs fl oq))) (hp : ∀ (kn' : Int32) (bw' : Nat → Int32), zt_at bw' (zt_G (zt_H sh ar rs fl oq)) → post (kn', sh, ar, rs, fl, oq, bw')) : wpY_strike post (kn, sh, ar, rs, fl, oq, bw) := by
  have key : ∃ n : Nat, wY_strike_15 post 1 n (nI 0) sh ar rs fl oq bw := by
    refine ⟨257, zy_fill (fun bw' hb' => ⟨259, ?_⟩) 256 0 257 bw rfl (by decide) (fun p hp => absurd hp (Nat.not_lt_zero p))⟩
    exact zy_out hD 257 0 259 (fun _ => true) bw' rfl (by decide) hb' (fun b h => hp 1 b h)
  exact br_c (fun _ => key) (fun z => hp kn bw (hK z))
theorem zy_sub {post : Int32 → SY → Prop} {bw : Nat → Int32} {s t : Nat} (hs : s < 16) (ht : t < 16) (hD : zt_D sh ar rs fl) (hK : zt_K kn bw (zt_G (zt_H sh ar rs fl oq))) (hp : ∀ (kn' : Int32) (bw' : Nat → Int32), zt_K kn' bw' (zt_G (zt_H sh ar rs fl oq)) → post (zt_i (zt_G (zt_H sh ar rs fl oq) (s * 16 + t))) (kn', sh, ar, rs, fl, oq, bw')) : wpY_subtype post (kn, sh, ar, rs, fl, oq, bw) (nI s) (nI t) := by
  unfold wpY_subtype
  dsimp only
  refine zy_bad hs (br_t rfl (zy_bad ht (br_t rfl (zy_strike hD hK (fun kn' bw' hb => ?_)))))
  dsimp only
  rw [zt_px, nI_clamp (n := s * 16 + t) (by omega), hb _ (zt_pr hs ht)]
  exact ⟨vp_in_nI (zt_pr hs ht) (by decide), zt_nar _, hp kn' bw' (fun _ => hb)⟩
theorem zy_eqv {post : Int32 → SY → Prop} {bw : Nat → Int32} {s t : Nat} (hs : s < 16) (ht : t < 16) (hD : zt_D sh ar rs fl) (hK : zt_K kn bw (zt_G (zt_H sh ar rs fl oq))) (hp : ∀ (kn' : Int32) (bw' : Nat → Int32), zt_K kn' bw' (zt_G (zt_H sh ar rs fl oq)) → post (zt_i (zt_eqv (zt_G (zt_H sh ar rs fl oq)) s t)) (kn', sh, ar, rs, fl, oq, bw')) : wpY_equivalent post (kn, sh, ar, rs, fl, oq, bw) (nI s) (nI t) := by
  unfold wpY_equivalent
  dsimp only
  refine zy_sub hs ht hD hK (fun k1 b1 h1 => ?_)
  dsimp only
  cases q1 : zt_G (zt_H sh ar rs fl oq) (s * 16 + t)
  · have e : zt_eqv (zt_G (zt_H sh ar rs fl oq)) s t = false := by unfold zt_eqv; rw [q1, Bool.false_and]
    have := hp k1 b1 h1
    rw [e] at this
    exact br_t rfl this
  refine br_f (by decide) (zy_sub ht hs hD h1 (fun k2 b2 h2 => ?_))
  dsimp only
  have := hp k2 b2 h2
  cases q2 : zt_G (zt_H sh ar rs fl oq) (t * 16 + s)
  · have e : zt_eqv (zt_G (zt_H sh ar rs fl oq)) s t = false := by unfold zt_eqv; rw [q2, Bool.and_false]
    rw [e] at this
    exact br_t rfl this
  · have e : zt_eqv (zt_G (zt_H sh ar rs fl oq)) s t = true := by unfold zt_eqv; rw [q1, q2]; rfl
    rw [e] at this
    exact br_f (by decide) this
end
