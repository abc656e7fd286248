/-! the component's rule against the pure one -/
theorem zx_ty {post : Int32 → Prop} {u : SX} {i : Nat} (hi : i < 16) (h : post 1) : wpX_isType post u (nI i) := by
  obtain ⟨a1, a2, a3, a4, a5, a6, a7⟩ := u
  exact br_f (nI_pos (by omega)) (br_f (nI_ge (b := 16) hi (by decide)) h)
theorem zx_tyN {post : Int32 → Prop} {u : SX} {x : Int32} (hx : x < 0 ∨ 16 ≤ x) (h : post 0) : wpX_isType post u x := by
  obtain ⟨a1, a2, a3, a4, a5, a6, a7⟩ := u
  by_cases z : x < 0
  · exact br_t z h
  · exact br_f z (br_t (hx.resolve_left z) h)
section
variable {sh ar rs pr op ft bl fl oq : Nat → Int32} {B : Nat → Bool}
theorem zx_bel {post : Int32 → Prop} {s t : Nat} (hs : s < 16) (ht : t < 16) (hB : zt_at bl B) (h : post (zt_i (B (s * 16 + t)))) : wpX_isBelow post (sh, ar, rs, pr, op, ft, bl) (nI s) (nI t) := by
  unfold wpX_isBelow
  dsimp only
  rw [zt_px, nI_clamp (n := s * 16 + t) (by omega), hB _ (zt_pr hs ht)]
  exact ⟨vp_in_nI (zt_pr hs ht) (by decide), zt_nar _, h⟩
theorem zx_rec1 {post : Int32 → Prop} {s t l n : Nat} (hs : s < 16) (ht : t < 16) (hl : l < 4) (es : sh s = 5) (et : sh t = 5) (hR : zt_R sh pr op ft fl oq) (hD : zt_D sh ar rs fl) (hB : zt_at bl B)
    (hT : zt_fo fl oq B (s * 4 + l) (t * 4 + l) = true → wX_recordRuleHolds_2 post (nI s) (nI t) sh ar rs pr op ft bl n (nI (l + 1)))
    (hF : zt_fo fl oq B (s * 4 + l) (t * 4 + l) = false → post 0) : wX_recordRuleHolds_2 post (nI s) (nI t) sh ar rs pr op ft bl (n + 1) (nI l) := by
  have ca : (nI (s * 4 + l)).toNatClampNeg = s * 4 + l := nI_clamp (by omega)
  have cb : (nI (t * 4 + l)).toNatClampNeg = t * 4 + l := nI_clamp (by omega)
  have ia : vp_in (nI (s * 4 + l)) 64 := vp_in_nI (by omega) (by decide)
  have ib : vp_in (nI (t * 4 + l)) 64 := vp_in_nI (by omega) (by decide)
  refine br_f (nI_ge (b := 4) hl (by decide)) (nm_r (zt_sx s l) (nm_r (zt_sx t l) ⟨ib, ?_⟩))
  simp only [ca, cb]
  rcases hR t l ht hl et with ⟨pt, f0⟩ | ⟨pt, tn, tt, ot⟩
  · exact br_t pt (nm_r (nI_1 l) (hT (by unfold zt_fo; rw [if_pos f0])))
  · refine br_f pt ⟨ia, ?_⟩
    rcases hR s l hs hl es with ⟨ps, f0⟩ | ⟨ps, sn, ss, os⟩
    · exact br_t ps (hF (by unfold zt_fo; rw [if_neg tn, if_pos f0]))
    · refine br_f ps ⟨ia, ?_⟩
      obtain ⟨a, ha, ea⟩ := (hD.2.2.2 (s * 4 + l) (by omega)).resolve_left sn
      obtain ⟨b, hb, eb⟩ := (hD.2.2.2 (t * 4 + l) (by omega)).resolve_left tn
      have h66 : ∀ c : ¬ (¬ oq (s * 4 + l) = 0 ∧ oq (t * 4 + l) = 0), wX_recordRuleHolds_66 post (wX_recordRuleHolds_2 post (nI s) (nI t) sh ar rs pr op ft bl n) (nI s) (nI t) (nI l) (nI (s * 4 + l)) (nI (t * 4 + l)) sh ar rs pr op ft bl := by
        intro c
        have e : zt_fo fl oq B (s * 4 + l) (t * 4 + l) = B (a * 16 + b) := by
          unfold zt_fo
          rw [if_neg tn, if_neg sn, if_neg c, ea, eb, nI_clamp (n := a) (by omega), nI_clamp (n := b) (by omega)]
        refine ⟨ia, ib, ?_⟩
        rw [ca, cb, ss, tt, ea, eb]
        refine zx_bel ha hb hB ?_
        cases q : B (a * 16 + b)
        · exact br_t rfl (hF (e.trans q))
        · exact br_f (by decide) (nm_r (nI_1 l) (hT (e.trans q)))
      rw [os, ot]
      refine br_c (fun c => h66 (fun z => z.1 c)) (fun c => ⟨ib, br_c (fun c2 => hF ?_) (fun c2 => h66 (fun z => c2 z.2))⟩)
      unfold zt_fo
      rw [if_neg tn, if_neg sn, if_pos ⟨c, c2⟩]
theorem zx_rec {post : Int32 → Prop} {s t : Nat} (hs : s < 16) (ht : t < 16) (es : sh s = 5) (et : sh t = 5) (hR : zt_R sh pr op ft fl oq) (hD : zt_D sh ar rs fl) (hB : zt_at bl B) (h : post (zt_i (zt_rc fl oq B s t))) : wpX_recordRuleHolds post (sh, ar, rs, pr, op, ft, bl) (nI s) (nI t) := by
  have hF : ∀ {b : Bool}, zt_rc fl oq B s t = false → post 0 := fun {b} e => by rw [e] at h; exact h
  have key : ∃ n : Nat, wX_recordRuleHolds_2 post (nI s) (nI t) sh ar rs pr op ft bl n (nI 0) := by
    refine ⟨5, zx_rec1 (l := 0) (n := 4) hs ht (by decide) es et hR hD hB (fun e0 => ?_) (fun e0 => ?_)⟩
    · refine zx_rec1 (l := 1) (n := 3) hs ht (by decide) es et hR hD hB (fun e1 => ?_) (fun e1 => ?_)
      · refine zx_rec1 (l := 2) (n := 2) hs ht (by decide) es et hR hD hB (fun e2 => ?_) (fun e2 => ?_)
        · refine zx_rec1 (l := 3) (n := 1) hs ht (by decide) es et hR hD hB (fun e3 => ?_) (fun e3 => ?_)
          · refine br_t (show (4 : Int32) ≤ nI (3 + 1) by decide) ?_
            have e : zt_rc fl oq B s t = true := by
              unfold zt_rc
              rw [show zt_fo fl oq B (s * 4) (t * 4) = true from e0, e1, e2, e3]; rfl
            rw [e] at h; exact h
          · exact hF (b := true) (by unfold zt_rc; rw [e3, Bool.and_false, Bool.and_false, Bool.and_false])
        · exact hF (b := true) (by unfold zt_rc; rw [e2, Bool.false_and, Bool.and_false, Bool.and_false])
      · exact hF (b := true) (by unfold zt_rc; rw [e1, Bool.false_and, Bool.and_false])
    · exact hF (b := true) (by unfold zt_rc; rw [show zt_fo fl oq B (s * 4) (t * 4) = false from e0, Bool.false_and])
  exact key
theorem zx_rule {post : Int32 → Prop} {s t : Nat} (hs : s < 16) (ht : t < 16) (hR : zt_R sh pr op ft fl oq) (hD : zt_D sh ar rs fl) (hB : zt_at bl B) (h : post (zt_i (zt_h sh ar rs fl oq B s t))) : wpX_ruleHolds post (sh, ar, rs, pr, op, ft, bl) (nI s) (nI t) := by
  have cs : (nI s).toNatClampNeg = s := nI_clamp (by omega)
  have ct : (nI t).toNatClampNeg = t := nI_clamp (by omega)
  have is : vp_in (nI s) 16 := vp_in_nI hs (by decide)
  have it : vp_in (nI t) 16 := vp_in_nI ht (by decide)
  have hv : ∀ b : Bool, zt_h sh ar rs fl oq B s t = b → post (zt_i b) := fun b e => by rw [e] at h; exact h
  unfold wpX_ruleHolds
  dsimp only
  simp only [cs, ct]
  refine ⟨it, br_c (fun c1 => hv true ?_) (fun c1 => ⟨is, br_c (fun c2 => hv true ?_) (fun c2 => ⟨is, it, br_c (fun c3 => ⟨is, br_c (fun c4 => ⟨it, is, ?_⟩) (fun c4 => ⟨is, br_c (fun c5 => ?_) (fun c5 => hv true ?_)⟩)⟩) (fun c3 => hv false ?_)⟩)⟩)⟩
  · unfold zt_h; rw [if_pos c1]
  · unfold zt_h; rw [if_neg c1, if_pos c2]
  · obtain ⟨a, ha, ea⟩ := hD.2.1 s hs
    obtain ⟨b, hb, eb⟩ := hD.2.1 t ht
    obtain ⟨c, hc, ec⟩ := hD.2.2.1 s hs
    obtain ⟨d, hd, ed⟩ := hD.2.2.1 t ht
    have e : zt_h sh ar rs fl oq B s t = (B (b * 16 + a) && B (c * 16 + d)) := by
      unfold zt_h
      rw [if_neg c1, if_neg c2, if_neg (not_not_intro c3), if_pos c4, ea, eb, ec, ed, nI_clamp (n := a) (by omega), nI_clamp (n := b) (by omega), nI_clamp (n := c) (by omega), nI_clamp (n := d) (by omega)]
    rw [ea, eb, ec, ed]
    refine zx_bel hb ha hB ?_
    cases q1 : B (b * 16 + a)
    · exact br_t rfl (hv false (by rw [e, q1, Bool.false_and]))
    · refine br_f (by decide) ⟨is, it, zx_bel hc hd hB ?_⟩
      cases q2 : B (c * 16 + d)
      · exact br_t rfl (hv false (by rw [e, q2, Bool.and_false]))
      · exact br_f (by decide) (hv true (by rw [e, q1, q2]; rfl))
  · have e : zt_h sh ar rs fl oq B s t = zt_rc fl oq B s t := by
      unfold zt_h
      rw [if_neg c1, if_neg c2, if_neg (not_not_intro c3), if_neg c4, if_pos c5]
    refine zx_rec hs ht c5 (c3.symm.trans c5) hR hD hB ?_
    cases q : zt_rc fl oq B s t
    · exact br_t rfl (hv false (e.trans q))
    · exact br_f (by decide) (hv true (e.trans q))
  · unfold zt_h; rw [if_neg c1, if_neg c2, if_neg (not_not_intro c3), if_neg c4, if_neg c5]
  · unfold zt_h; rw [if_neg c1, if_neg c2, if_pos c3]
end
