/-! what is owed -/
theorem i_up {k : Nat} {u : SX} {v : SY} (h : i_Rel k u v) : i_Rel (k + 5) u v := h
theorem i_vc0 : wpX_init (fun u => wpY_init (fun v => i_Rel 0 u v)) := by
  have key : ∃ n : Nat, wX_init_63 (fun u => wpY_init (fun v => i_Rel 0 u v)) n (nI 0) (fun _ => 0) (fun _ => 0) (fun _ => 0) (fun _ => 0) (fun _ => 0) (fun _ => 0) (fun _ => 0) := by
    refine ⟨17, zx_init0 ?_ 16 0 17 rfl (by decide)⟩
    refine zt_mk (k := 0) ⟨fun _ _ => ⟨0, by decide, rfl⟩, fun _ _ => ⟨0, by decide, rfl⟩, fun _ _ => ⟨0, by decide, rfl⟩, fun _ _ => Or.inr ⟨0, by decide, rfl⟩⟩ (fun i l _ _ h => ?_) zt_K0
    exact absurd (show (0 : Int32) = 5 from h) (by decide)
  exact key
theorem i_vc_shape {k : Nat} {u : SX} {v : SY} (I : i_Rel k u v) (hk : k + 5 ≤ 2560) (v1 : Int32) (v2 : Int32) : wpX_shape (fun r u' => wpY_shape (fun r' v' => r' = r ∧ i_Rel (k + 5) u' v') v v1 v2) u v1 v2 := by
  obtain ⟨sh, ar, rs, pr, op, ft, bl, fl, oq, bw, kn, rfl, rfl, hD, hR, hK⟩ := I
  unfold wpX_shape wpY_shape
  dsimp only
  rcases zt_tz v1 with b1 | ⟨i, hi, rfl⟩
  · exact zx_tyN b1 (br_t rfl (zy_badN b1 (br_f (by decide) ⟨rfl, zt_mk hD hR hK⟩)))
  refine zx_ty hi (br_f (by decide) ?_)
  by_cases c0 : v2 < 0
  · exact br_t c0 (zy_bad hi (br_t rfl (br_t c0 ⟨rfl, zt_mk hD hR hK⟩)))
  by_cases c5 : 5 < v2
  · exact br_f c0 (br_t c5 (zy_bad hi (br_t rfl (br_f c0 (br_t c5 ⟨rfl, zt_mk hD hR hK⟩)))))
  by_cases c4 : v2 = 4
  · exact br_f c0 (br_f c5 (br_t c4 (zy_bad hi (br_t rfl (br_f c0 (br_f c5 (br_t c4 ⟨rfl, zt_mk hD hR hK⟩)))))))
  obtain ⟨j, hj, rfl⟩ := nI_of2 (x := v2) (M := 5) (n := 5) (by decide) c0 (Int32.not_lt.mp c5)
  have ci : (nI i).toNatClampNeg = i := nI_clamp (by omega)
  have ii : vp_in (nI i) 16 := vp_in_nI hi (by decide)
  refine br_f c0 (br_f c5 (br_f c4 (zx_reshape hi (fun p hp => ?_))))
  dsimp only
  refine zy_bad hi (br_t rfl (br_f c0 (br_f c5 (br_f c4 ?_))))
  rw [ci]
  refine ⟨ii, nm_e ⟨ii, nm_e ?_⟩⟩
  have key := fun (post : Int32 → SY → Prop) h => zy_shl (post := post) (x3 := sh i) (kn := kn) (sh := upd sh i (nI j)) (ar := ar) (rs := rs) (fl := fl) (oq := oq) (bw := bw) hi h 4 0 5 fl rfl (by decide) (fun m hm => absurd hm (Nat.not_lt_zero m)) (fun q _ => rfl)
  exact ⟨5, key _ (fun g hg => ⟨rfl, zt_mk (zt_Dshape hD hi (by omega) hg) (zt_Rshape hR hp hg) zt_K0⟩)⟩
theorem i_vc_fun {k : Nat} {u : SX} {v : SY} (I : i_Rel k u v) (hk : k + 5 ≤ 2560) (v1 : Int32) (v2 : Int32) (v3 : Int32) : wpX_fun (fun r u' => wpY_fun (fun r' v' => r' = r ∧ i_Rel (k + 5) u' v') v v1 v2 v3) u v1 v2 v3 := by
  obtain ⟨sh, ar, rs, pr, op, ft, bl, fl, oq, bw, kn, rfl, rfl, hD, hR, hK⟩ := I
  unfold wpX_fun wpY_fun
  dsimp only
  rcases zt_tz v1 with b1 | ⟨i, hi, rfl⟩
  · exact zx_tyN b1 (br_t rfl (zy_badN b1 (br_f (by decide) ⟨rfl, zt_mk hD hR hK⟩)))
  refine zx_ty hi (br_f (by decide) ?_)
  rcases zt_tz v2 with b2 | ⟨a, ha, rfl⟩
  · exact zx_tyN b2 (br_t rfl (zy_bad hi (br_t rfl (zy_badN b2 (br_f (by decide) ⟨rfl, zt_mk hD hR hK⟩)))))
  refine zx_ty ha (br_f (by decide) ?_)
  rcases zt_tz v3 with b3 | ⟨b, hb, rfl⟩
  · exact zx_tyN b3 (br_t rfl (zy_bad hi (br_t rfl (zy_bad ha (br_t rfl (zy_badN b3 (br_f (by decide) ⟨rfl, zt_mk hD hR hK⟩)))))))
  have ci : (nI i).toNatClampNeg = i := nI_clamp (by omega)
  have ii : vp_in (nI i) 16 := vp_in_nI hi (by decide)
  refine zx_ty hb (br_f (by decide) ?_)
  rw [ci]
  refine ⟨ii, nm_e ⟨ii, nm_e (zx_reshape hi (fun p hp => ?_))⟩⟩
  dsimp only
  refine zy_bad hi (br_t rfl (zy_bad ha (br_t rfl (zy_bad hb (br_t rfl ?_)))))
  exact ⟨ii, nm_e ⟨ii, nm_e ⟨ii, nm_e ⟨ii, nm_e ⟨rfl, zt_mk (zt_Dfun hD ha hb) (zt_Rfun hR hp) zt_K0⟩⟩⟩⟩⟩
theorem i_vc_field {k : Nat} {u : SX} {v : SY} (I : i_Rel k u v) (hk : k + 5 ≤ 2560) (v1 : Int32) (v2 : Int32) (v3 : Int32) (v4 : Int32) : wpX_field (fun r u' => wpY_field (fun r' v' => r' = r ∧ i_Rel (k + 5) u' v') v v1 v2 v3 v4) u v1 v2 v3 v4 := by
  obtain ⟨sh, ar, rs, pr, op, ft, bl, fl, oq, bw, kn, rfl, rfl, hD, hR, hK⟩ := I
  unfold wpX_field wpY_field
  dsimp only
  rcases zt_tz v3 with b3 | ⟨b, hb, rfl⟩
  · exact zx_tyN b3 (br_t rfl (zy_badN b3 (br_f (by decide) ⟨rfl, zt_mk hD hR hK⟩)))
  refine zx_ty hb (br_f (by decide) ?_)
  obtain ⟨r, hX, hY, ⟨rfl, i, l, hi, hl, rfl, rfl, h5⟩ | ⟨hr, hr2⟩⟩ := zt_ff (kn := kn) (sh := sh) (ar := ar) (rs := rs) (pr := pr) (op := op) (ft := ft) (bl := bl) (fl := fl) (oq := oq) (bw := bw) v1 v2
  · have hq : i * 4 + l < 64 := by omega
    have cq : (nI (i * 4 + l)).toNatClampNeg = i * 4 + l := nI_clamp (by omega)
    refine hX _ (br_t rfl (nm_r (zt_sx i l) ⟨vp_in_nI hq (by decide), ?_⟩))
    rw [cq]
    have fin : ∀ z : Int32, (z = 0 → fl (i * 4 + l) < 0) → (z = 1 → ¬ fl (i * 4 + l) < 0) → (z = 0 ∨ z = 1) → wpY_bad (fun r_1 => (r_1 = 0 → wpY_refusal (fun r_10 => (0 ≤ r_10 → (v4 = 0 → wY_field_43 (fun r' v' => r' = z ∧ i_Rel (k + 5) (sh, ar, rs, upd pr (i * 4 + l) 1, upd op (i * 4 + l) (zt_w v4), upd ft (i * 4 + l) (nI b), bl) v') 0 (nI b) (nI i * 4 + nI l) kn sh ar rs fl oq bw) ∧ (¬ v4 = 0 → wY_field_43 (fun r' v' => r' = z ∧ i_Rel (k + 5) (sh, ar, rs, upd pr (i * 4 + l) 1, upd op (i * 4 + l) (zt_w v4), upd ft (i * 4 + l) (nI b), bl) v') 1 (nI b) (nI i * 4 + nI l) kn sh ar rs fl oq bw)) ∧ (¬ 0 ≤ r_10 → r_10 = z ∧ i_Rel (k + 5) (sh, ar, rs, upd pr (i * 4 + l) 1, upd op (i * 4 + l) (zt_w v4), upd ft (i * 4 + l) (nI b), bl) (kn, sh, ar, rs, fl, oq, bw))) (kn, sh, ar, rs, fl, oq, bw) (nI i) (nI l)) ∧ (¬ r_1 = 0 → -1 = z ∧ i_Rel (k + 5) (sh, ar, rs, upd pr (i * 4 + l) 1, upd op (i * 4 + l) (zt_w v4), upd ft (i * 4 + l) (nI b), bl) (kn, sh, ar, rs, fl, oq, bw))) (kn, sh, ar, rs, fl, oq, bw) (nI b) := by
      intro z h0 h1 h01
      refine zy_bad hb (br_t rfl (hY _ (br_t (by decide) ?_)))
      rw [zt_sx]
      have fin2 : ∀ w : Int32, vp_nar .boolean w = zt_w v4 → wY_field_43 (fun r' v' => r' = z ∧ i_Rel (k + 5) (sh, ar, rs, upd pr (i * 4 + l) 1, upd op (i * 4 + l) (zt_w v4), upd ft (i * 4 + l) (nI b), bl) v') w (nI b) (nI (i * 4 + l)) kn sh ar rs fl oq bw := by
        intro w hw
        unfold wY_field_43
        refine zy_set hq (fun c => ?_) (fun c => ?_)
        · dsimp only
          rw [hw]
          exact ⟨(h01.resolve_right (fun e => h1 e c)).symm, zt_mk (zt_Dset hD hb) (zt_Rset hR hb) zt_K0⟩
        · dsimp only
          rw [hw]
          exact ⟨(h01.resolve_left (fun e => c (h0 e))).symm, zt_mk (zt_Dset hD hb) (zt_Rset hR hb) zt_K0⟩
      exact br_c (fun c => fin2 0 (show (0 : Int32) = _ from (if_pos c).symm)) (fun c => fin2 1 (show (1 : Int32) = _ from (if_neg c).symm))
    rcases hR i l hi hl h5 with ⟨p0, f0⟩ | ⟨p1, f1, _, _⟩
    · exact br_t p0 (zx_set hq (fin 0 (fun _ => f0) (fun e => absurd e (by decide)) (Or.inl rfl)))
    · exact br_f p1 (zx_set hq (fin 1 (fun e => absurd e (by decide)) (fun _ => f1) (Or.inr rfl)))
  · exact hX _ (br_f hr (zy_bad hb (br_t rfl (hY _ (br_f hr2 ⟨rfl, zt_mk hD hR hK⟩)))))
theorem i_vc_dropField {k : Nat} {u : SX} {v : SY} (I : i_Rel k u v) (hk : k + 5 ≤ 2560) (v1 : Int32) (v2 : Int32) : wpX_dropField (fun r u' => wpY_dropField (fun r' v' => r' = r ∧ i_Rel (k + 5) u' v') v v1 v2) u v1 v2 := by
  obtain ⟨sh, ar, rs, pr, op, ft, bl, fl, oq, bw, kn, rfl, rfl, hD, hR, hK⟩ := I
  unfold wpX_dropField wpY_dropField
  dsimp only
  obtain ⟨r, hX, hY, ⟨rfl, i, l, hi, hl, rfl, rfl, h5⟩ | ⟨hr, hr2⟩⟩ := zt_ff (kn := kn) (sh := sh) (ar := ar) (rs := rs) (pr := pr) (op := op) (ft := ft) (bl := bl) (fl := fl) (oq := oq) (bw := bw) v1 v2
  · have hq : i * 4 + l < 64 := by omega
    have cq : (nI (i * 4 + l)).toNatClampNeg = i * 4 + l := nI_clamp (by omega)
    have iq : vp_in (nI (i * 4 + l)) 64 := vp_in_nI hq (by decide)
    refine hX _ (br_t rfl (nm_r (zt_sx i l) ⟨iq, ?_⟩))
    rw [cq]
    rcases hR i l hi hl h5 with ⟨p0, f0⟩ | ⟨p1, f1, _, _⟩
    · refine br_t p0 ⟨iq, nm_r (e' := upd pr (i * 4 + l) 0) (by rw [cq]; rfl) ?_⟩
      refine hY _ (br_t (by decide) ?_)
      rw [zt_sx]
      exact zy_set hq (fun _ => ⟨rfl, zt_mk (zt_Ddrop hD) (zt_Rdrop hR) zt_K0⟩) (fun c => absurd f0 c)
    · refine br_f p1 ⟨iq, nm_r (e' := upd pr (i * 4 + l) 0) (by rw [cq]; rfl) ?_⟩
      refine hY _ (br_t (by decide) ?_)
      rw [zt_sx]
      exact zy_set hq (fun c => absurd c f1) (fun _ => ⟨rfl, zt_mk (zt_Ddrop hD) (zt_Rdrop hR) zt_K0⟩)
  · exact hX _ (br_f hr (hY _ (br_f hr2 ⟨rfl, zt_mk hD hR hK⟩)))
theorem i_vc_subtype {k : Nat} {u : SX} {v : SY} (I : i_Rel k u v) (hk : k + 5 ≤ 2560) (v1 : Int32) (v2 : Int32) : wpX_subtype (fun r u' => wpY_subtype (fun r' v' => r' = r ∧ i_Rel (k + 5) u' v') v v1 v2) u v1 v2 := by
  obtain ⟨sh, ar, rs, pr, op, ft, bl, fl, oq, bw, kn, rfl, rfl, hD, hR, hK⟩ := I
  unfold wpX_subtype
  dsimp only
  rcases zt_tz v1 with b1 | ⟨s, hs, rfl⟩
  · unfold wpY_subtype
    exact zx_tyN b1 (br_t rfl (zy_badN b1 (br_f (by decide) ⟨rfl, zt_mk hD hR hK⟩)))
  refine zx_ty hs (br_f (by decide) ?_)
  rcases zt_tz v2 with b2 | ⟨t, ht, rfl⟩
  · unfold wpY_subtype
    exact zx_tyN b2 (br_t rfl (zy_bad hs (br_t rfl (zy_badN b2 (br_f (by decide) ⟨rfl, zt_mk hD hR hK⟩)))))
  refine zx_ty ht (br_f (by decide) (zx_settle hR hD (fun bl' hb => ?_)))
  dsimp only
  exact zx_bel hs ht hb ⟨zt_nar _, zy_sub hs ht hD hK (fun k1 b1 h1 => ⟨rfl, zt_mk hD hR h1⟩)⟩
theorem i_vc_equivalent {k : Nat} {u : SX} {v : SY} (I : i_Rel k u v) (hk : k + 5 ≤ 2560) (v1 : Int32) (v2 : Int32) : wpX_equivalent (fun r u' => wpY_equivalent (fun r' v' => r' = r ∧ i_Rel (k + 5) u' v') v v1 v2) u v1 v2 := by
  obtain ⟨sh, ar, rs, pr, op, ft, bl, fl, oq, bw, kn, rfl, rfl, hD, hR, hK⟩ := I
  unfold wpX_equivalent
  dsimp only
  rcases zt_tz v1 with b1 | ⟨s, hs, rfl⟩
  · unfold wpY_equivalent wpY_subtype
    exact zx_tyN b1 (br_t rfl (zy_badN b1 (br_f (by decide) (br_t rfl ⟨rfl, zt_mk hD hR hK⟩))))
  refine zx_ty hs (br_f (by decide) ?_)
  rcases zt_tz v2 with b2 | ⟨t, ht, rfl⟩
  · unfold wpY_equivalent wpY_subtype
    exact zx_tyN b2 (br_t rfl (zy_bad hs (br_t rfl (zy_badN b2 (br_f (by decide) (br_t rfl ⟨rfl, zt_mk hD hR hK⟩))))))
  refine zx_ty ht (br_f (by decide) (zx_settle hR hD (fun bl' hb => ?_)))
  dsimp only
  refine zx_bel hs ht hb ?_
  have hY : ∀ z : Int32, zt_i (zt_eqv (zt_G (zt_H sh ar rs fl oq)) s t) = z → wpY_equivalent (fun r' v' => r' = z ∧ i_Rel (k + 5) (sh, ar, rs, pr, op, ft, bl') v') (kn, sh, ar, rs, fl, oq, bw) (nI s) (nI t) :=
    fun z e => zy_eqv hs ht hD hK (fun k1 b1 h1 => ⟨e, zt_mk hD hR h1⟩)
  cases q1 : zt_G (zt_H sh ar rs fl oq) (s * 16 + t)
  · exact br_t rfl (hY 0 (by unfold zt_eqv; rw [q1, Bool.false_and]; rfl))
  refine br_f (by decide) (zx_bel ht hs hb ?_)
  cases q2 : zt_G (zt_H sh ar rs fl oq) (t * 16 + s)
  · exact br_t rfl (hY 0 (by unfold zt_eqv; rw [q2, Bool.and_false]; rfl))
  · exact br_f (by decide) (hY 1 (by unfold zt_eqv; rw [q1, q2]; rfl))
theorem i_vc_subtypes {k : Nat} {u : SX} {v : SY} (I : i_Rel k u v) (hk : k + 5 ≤ 2560) (v1 : Int32) : wpX_subtypes (fun r u' => wpY_subtypes (fun r' v' => r' = r ∧ i_Rel (k + 5) u' v') v v1) u v1 := by
  obtain ⟨sh, ar, rs, pr, op, ft, bl, fl, oq, bw, kn, rfl, rfl, hD, hR, hK⟩ := I
  unfold wpX_subtypes wpY_subtypes
  dsimp only
  rcases zt_tz v1 with b1 | ⟨t, ht, rfl⟩
  · exact zx_tyN b1 (br_t rfl (zy_badN b1 (br_f (by decide) ⟨rfl, zt_mk hD hR hK⟩)))
  refine zx_ty ht (br_f (by decide) (zx_settle hR hD (fun bl' hb => ?_)))
  dsimp only
  refine ⟨17, zx_msk ht hb ?_ 16 0 17 rfl (by decide)⟩
  refine zy_bad ht (br_t rfl ⟨17, zy_msk rfl hD ht (fun k1 b1 h1 => ?_) 16 0 17 kn bw rfl (by decide) hK⟩)
  exact ⟨rfl, zt_mk hD hR h1⟩
theorem i_vc_kinds {k : Nat} {u : SX} {v : SY} (I : i_Rel k u v) (hk : k + 5 ≤ 2560) : wpX_kinds (fun r u' => wpY_kinds (fun r' v' => r' = r ∧ i_Rel (k + 5) u' v') v) u := by
  obtain ⟨sh, ar, rs, pr, op, ft, bl, fl, oq, bw, kn, rfl, rfl, hD, hR, hK⟩ := I
  unfold wpX_kinds wpY_kinds
  dsimp only
  refine zx_settle hR hD (fun bl' hb => ?_)
  dsimp only
  refine ⟨17, zx_kin hb ?_ 16 0 17 rfl (by decide)⟩
  refine ⟨17, zy_kin rfl hD (fun k1 b1 h1 => ?_) 16 0 17 kn bw rfl (by decide) hK⟩
  exact ⟨rfl, zt_mk hD hR h1⟩
theorem i_vc_unrelated {k : Nat} {u : SX} {v : SY} (I : i_Rel k u v) (hk : k + 5 ≤ 2560) : wpX_unrelated (fun r u' => wpY_unrelated (fun r' v' => r' = r ∧ i_Rel (k + 5) u' v') v) u := by
  obtain ⟨sh, ar, rs, pr, op, ft, bl, fl, oq, bw, kn, rfl, rfl, hD, hR, hK⟩ := I
  unfold wpX_unrelated wpY_unrelated
  dsimp only
  refine zx_settle hR hD (fun bl' hb => ?_)
  dsimp only
  refine ⟨17, zx_una hb ?_ 16 0 17 rfl (by decide)⟩
  refine ⟨17, zy_una rfl hD (fun k1 b1 h1 => ?_) 16 0 17 kn bw rfl (by decide) hK⟩
  exact ⟨rfl, zt_mk hD hR h1⟩
theorem i_vc_shapeOf {k : Nat} {u : SX} {v : SY} (I : i_Rel k u v) (hk : k + 5 ≤ 2560) (v1 : Int32) : wpX_shapeOf (fun r => wpY_shapeOf (fun r' => r' = r ∧ i_Rel (k + 5) u v) v v1) u v1 := by
  obtain ⟨sh, ar, rs, pr, op, ft, bl, fl, oq, bw, kn, rfl, rfl, hD, hR, hK⟩ := I
  unfold wpX_shapeOf wpY_shapeOf
  dsimp only
  rcases zt_tz v1 with b1 | ⟨i, hi, rfl⟩
  · exact zx_tyN b1 (br_t rfl (zy_badN b1 (br_f (by decide) ⟨rfl, zt_mk hD hR hK⟩)))
  have ii : vp_in (nI i) 16 := vp_in_nI hi (by decide)
  exact zx_ty hi (br_f (by decide) ⟨ii, zy_bad hi (br_t rfl ⟨ii, rfl, zt_mk hD hR hK⟩)⟩)
