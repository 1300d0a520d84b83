section
/-- the two heaps are the same as far as the roots show; the window is within -/
def i_Rel (k : Nat) (u : SX) (v : SY) : Prop := match u, v with
  | (wz, ws, _, xr, xt, xp, xf, _, _), (yr, yf, yp, _) => oh_W ws wz ∧ oh_R xr xt xp xf yr yf yp
theorem i_up {k : Nat} {u : SX} {v : SY} (h : i_Rel k u v) : i_Rel (k + 4) u v := h
theorem i_vc0 (k0 : Int32) : wpX_init (fun u => wpY_init (fun v => i_Rel 1 u v) k0) k0 := by
  unfold wpX_init
  refine ox_clamp k0 (fun k h1 h8 => ?_)
  refine ⟨9, ox_in72 (fun xr hx => ?_) 8 0 _ (by omega) (fun j hj => by omega)⟩
  unfold wpY_init
  refine ⟨9, oy_in38 (fun yr hy => ?_) 8 0 _ (by omega) (fun j hj => by omega)⟩
  refine ⟨⟨⟨0, by omega, rfl⟩, k, h1, h8, rfl⟩, fun _ _ => Or.inr ⟨0, by omega, rfl⟩, fun _ _ => Or.inr ⟨0, by omega, rfl⟩, fun _ _ => False, ⟨fun a b h => h.elim, fun a b t h => h.elim, fun a b b' h => h.elim, fun a a' b h => h.elim⟩, fun r hr => Or.inl ⟨hx r hr, hy r hr⟩⟩
theorem i_vc_make {k : Nat} {u : SX} {v : SY} (I : i_Rel k u v) (hk : k + 4 ≤ 2049) (v1 : Int32) (v2 : Int32) : wpX_make (fun r u' => wpY_make (fun r' v' => r' = r ∧ i_Rel (k + 4) u' v') v v1 v2) u v1 v2 := by
  obtain ⟨wz, ws, sc, xr, xt, xp, xf, sn, ds⟩ := u
  obtain ⟨yr, yf, yp, aw⟩ := v
  obtain ⟨hW, hR⟩ := I
  have hxr : ∀ r, r < 8 → oh_val (xr r) := fun r hr => oh_R_x hR hr
  have hyr : ∀ r, r < 8 → oh_val (yr r) := fun r hr => oh_R_y hR hr
  unfold wpX_make
  dsimp only
  rcases oh_cls v1 with hb | ⟨a, ha, e1⟩
  · refine ox_isRoot_f hb (br_t rfl ?_)
    unfold wpY_make
    dsimp only
    exact oy_isRoot_f hb (br_t rfl ⟨rfl, hW, hR⟩)
  · rw [e1]
    refine ox_isRoot_t ha (br_f (by decide) (ox_free (fun s hs h0 => ?_) (fun hall => ?_)))
    · refine br_f (oh_m1 (by omega)) (ox_mk28 ha hs (fun xf' hxf => ?_))
      refine oy_make ha hyr hR.2.1 (fun w hY e => absurd e (oh_R_notfull hR oh_neg1 hY hs h0)) (fun w p yf' hY ne hp ew hyf => ?_)
      exact ⟨rfl, hW, oh_R_new hR (fun _ _ _ z => z) hs hp h0 (oh_R_far hR hY hp ew) (by decide) hxf hyf⟩
    · refine br_t rfl (ox_clean hW hxr hR.1 (fun ws' c xt' sn' d hW' hX hL => ?_))
      have hkeep : ∀ n a, oh_P (oh_src xr 8) xf n a → xt a ≠ 0 → xt' a ≠ 0 := fun n a hp h => by
        rw [hL.1 a (oh_P_lt hp) (oh_Xd_n hX (oh_P_lt hp) hp)]
        exact h
      refine ox_free (fun s hs h0 => ?_) (fun hall' => ?_)
      · refine ox_mk28 ha hs (fun xf' hxf => ?_)
        refine oy_make ha hyr hR.2.1 (fun w hY e => ?_) (fun w p yf' hY ne hp ew hyf => ?_)
        · have hd := (oh_R_full hR oh_neg1 hX hY).mp e s hs
          have h1 := hL.1 s hs hd
          exact absurd (h1.symm.trans h0) (hall s hs)
        · exact ⟨rfl, hW', oh_R_new hR hkeep hs hp h0 (oh_R_far hR hY hp ew) (by decide) hxf hyf⟩
      · unfold wX_make_28
        refine br_t rfl ?_
        refine oy_make ha hyr hR.2.1 (fun w hY e => ⟨rfl, hW', oh_R_cleaned hR hkeep⟩) (fun w p yf' hY ne hp ew hyf => ?_)
        refine absurd ((oh_R_full hR oh_neg1 hX hY).mpr (fun j hj => ?_)) ne
        rcases hL.2 with ⟨j', hj', e'⟩ | h2
        · exact absurd e' (hall' j' hj')
        · rcases h2 j hj with h3 | h3
          · exact absurd h3 (hall j hj)
          · exact h3
theorem i_vc_copyRoot {k : Nat} {u : SX} {v : SY} (I : i_Rel k u v) (hk : k + 4 ≤ 2049) (v1 : Int32) (v2 : Int32) : wpX_copyRoot (fun r u' => wpY_copyRoot (fun r' v' => r' = r ∧ i_Rel (k + 4) u' v') v v1 v2) u v1 v2 := by
  obtain ⟨wz, ws, sc, xr, xt, xp, xf, sn, ds⟩ := u
  obtain ⟨yr, yf, yp, aw⟩ := v
  obtain ⟨hW, hR⟩ := I
  unfold wpX_copyRoot wpY_copyRoot
  dsimp only
  rcases oh_cls v1 with hb | ⟨a, ha, e1⟩
  · exact ox_isRoot_f hb (br_t rfl (oy_isRoot_f hb (br_t rfl ⟨rfl, hW, hR⟩)))
  · rw [e1]
    refine ox_isRoot_t ha (br_f (by decide) ?_)
    rcases oh_cls v2 with hb | ⟨b, hb, e2⟩
    · exact ox_isRoot_f hb (br_t rfl (oy_isRoot_t ha (br_f (by decide) (oy_isRoot_f hb (br_t rfl ⟨rfl, hW, hR⟩)))))
    · rw [e2, nI_clamp (show a < 2 ^ 31 by omega), nI_clamp (show b < 2 ^ 31 by omega)]
      refine ox_isRoot_t hb (br_f (by decide) ⟨pk_in a 8 ha, pk_in b 8 hb, nm_e ?_⟩)
      exact oy_isRoot_t ha (br_f (by decide) (oy_isRoot_t hb (br_f (by decide) ⟨pk_in a 8 ha, pk_in b 8 hb, nm_e ⟨rfl, hW, oh_R_copy hR ha⟩⟩)))
theorem i_vc_drop {k : Nat} {u : SX} {v : SY} (I : i_Rel k u v) (hk : k + 4 ≤ 2049) (v1 : Int32) : wpX_drop (fun r u' => wpY_drop (fun r' v' => r' = r ∧ i_Rel (k + 4) u' v') v v1) u v1 := by
  obtain ⟨wz, ws, sc, xr, xt, xp, xf, sn, ds⟩ := u
  obtain ⟨yr, yf, yp, aw⟩ := v
  obtain ⟨hW, hR⟩ := I
  unfold wpX_drop wpY_drop
  dsimp only
  rcases oh_cls v1 with hb | ⟨a, ha, e1⟩
  · exact ox_isRoot_f hb (br_t rfl (oy_isRoot_f hb (br_t rfl ⟨rfl, hW, hR⟩)))
  · rw [e1, nI_clamp (show a < 2 ^ 31 by omega)]
    refine ox_isRoot_t ha (br_f (by decide) ⟨pk_in a 8 ha, nm_e ?_⟩)
    exact oy_isRoot_t ha (br_f (by decide) ⟨pk_in a 8 ha, nm_e ⟨rfl, hW, oh_R_drop hR⟩⟩)
theorem i_vc_load {k : Nat} {u : SX} {v : SY} (I : i_Rel k u v) (hk : k + 4 ≤ 2049) (v1 : Int32) (v2 : Int32) (v3 : Int32) : wpX_load (fun r u' => wpY_load (fun r' v' => r' = r ∧ i_Rel (k + 4) u' v') v v1 v2 v3) u v1 v2 v3 := by
  obtain ⟨wz, ws, sc, xr, xt, xp, xf, sn, ds⟩ := u
  obtain ⟨yr, yf, yp, aw⟩ := v
  obtain ⟨hW, hR⟩ := I
  unfold wpX_load wpY_load
  dsimp only
  rcases oh_cls v1 with hb | ⟨a, ha, e1⟩
  · exact ox_ref1 hb (br_f (by decide) (oy_ref1 hb (br_f (by decide) ⟨rfl, hW, hR⟩)))
  · rw [e1]
    rcases oh_cls v3 with hb | ⟨b, hb, e3⟩
    · exact ox_ref2 ha hb (br_f (by decide) (oy_ref2 ha hb (br_f (by decide) ⟨rfl, hW, hR⟩)))
    · rw [e3]
      rcases oh_cls3 v2 with hf | ⟨t, ht, e2⟩
      · exact ox_ref3 ha hb hf (br_f (by decide) (oy_ref3 ha hb hf (br_f (by decide) ⟨rfl, hW, hR⟩)))
      · rw [e2]
        rcases oh_R_cases hR ha with ⟨ex, ey⟩ | ⟨p, q, hp, hq, ex, ey, _⟩
        · exact ox_ref4 ha hb ht ex (br_f (by decide) (oy_ref4 ha hb ht ey (br_f (by decide) ⟨rfl, hW, hR⟩)))
        · rw [nI_clamp (show a < 2 ^ 31 by omega), nI_clamp (show b < 2 ^ 31 by omega), ex, ey, oh_ix, oh_ix, nI_clamp (show p * 3 + t < 2 ^ 31 by omega), nI_clamp (show q * 3 + t < 2 ^ 31 by omega)]
          refine ox_ref5 ha hb ht hp ex (br_t rfl ⟨pk_in a 8 ha, pk_in (p * 3 + t) 72 (by omega), pk_in b 8 hb, nm_e ?_⟩)
          exact oy_ref5 ha hb ht hq ey (br_t (by decide) ⟨pk_in a 8 ha, pk_in (q * 3 + t) 72 (by omega), pk_in b 8 hb, nm_e ⟨rfl, hW, oh_R_load hR ha ht hp hq ex ey⟩⟩)
theorem i_vc_store {k : Nat} {u : SX} {v : SY} (I : i_Rel k u v) (hk : k + 4 ≤ 2049) (v1 : Int32) (v2 : Int32) (v3 : Int32) : wpX_store (fun r u' => wpY_store (fun r' v' => r' = r ∧ i_Rel (k + 4) u' v') v v1 v2 v3) u v1 v2 v3 := by
  obtain ⟨wz, ws, sc, xr, xt, xp, xf, sn, ds⟩ := u
  obtain ⟨yr, yf, yp, aw⟩ := v
  obtain ⟨hW, hR⟩ := I
  unfold wpX_store wpY_store
  dsimp only
  rcases oh_cls v1 with hb | ⟨a, ha, e1⟩
  · exact ox_ref1 hb (br_f (by decide) (oy_ref1 hb (br_f (by decide) ⟨rfl, hW, hR⟩)))
  · rw [e1]
    rcases oh_cls v3 with hb | ⟨b, hb, e3⟩
    · exact ox_ref2 ha hb (br_f (by decide) (oy_ref2 ha hb (br_f (by decide) ⟨rfl, hW, hR⟩)))
    · rw [e3]
      rcases oh_cls3 v2 with hf | ⟨t, ht, e2⟩
      · exact ox_ref3 ha hb hf (br_f (by decide) (oy_ref3 ha hb hf (br_f (by decide) ⟨rfl, hW, hR⟩)))
      · rw [e2]
        rcases oh_R_cases hR ha with ⟨ex, ey⟩ | ⟨p, q, hp, hq, ex, ey, _⟩
        · exact ox_ref4 ha hb ht ex (br_f (by decide) (oy_ref4 ha hb ht ey (br_f (by decide) ⟨rfl, hW, hR⟩)))
        · refine ox_ref5 ha hb ht hp ex (br_t rfl ⟨pk_in a 8 ha, pk_in b 8 hb, ?_⟩)
          rw [nI_clamp (show a < 2 ^ 31 by omega), nI_clamp (show b < 2 ^ 31 by omega), ex, oh_ix, nI_clamp (show p * 3 + t < 2 ^ 31 by omega)]
          refine ⟨pk_in (p * 3 + t) 72 (by omega), nm_e ?_⟩
          refine oy_ref5 ha hb ht hq ey (br_t (by decide) ⟨pk_in a 8 ha, pk_in b 8 hb, ?_⟩)
          rw [ey, oh_ix, nI_clamp (show q * 3 + t < 2 ^ 31 by omega)]
          exact ⟨pk_in (q * 3 + t) 72 (by omega), nm_e ⟨rfl, hW, oh_R_store hR ha hb ht hp hq ex ey⟩⟩
theorem i_vc_setPayload {k : Nat} {u : SX} {v : SY} (I : i_Rel k u v) (hk : k + 4 ≤ 2049) (v1 : Int32) (v2 : Int32) : wpX_setPayload (fun r u' => wpY_setPayload (fun r' v' => r' = r ∧ i_Rel (k + 4) u' v') v v1 v2) u v1 v2 := by
  obtain ⟨wz, ws, sc, xr, xt, xp, xf, sn, ds⟩ := u
  obtain ⟨yr, yf, yp, aw⟩ := v
  obtain ⟨hW, hR⟩ := I
  unfold wpX_setPayload wpY_setPayload
  dsimp only
  rcases oh_cls v1 with hb | ⟨a, ha, e1⟩
  · exact ox_isRoot_f hb (br_t rfl (oy_ref1 hb (br_f (by decide) ⟨rfl, hW, hR⟩)))
  · rw [e1, nI_clamp (show a < 2 ^ 31 by omega)]
    refine ox_isRoot_t ha (br_f (by decide) ⟨pk_in a 8 ha, ?_⟩)
    rcases oh_R_cases hR ha with ⟨ex, ey⟩ | ⟨p, q, hp, hq, ex, ey, _⟩
    · exact br_t ex (oy_ref4 (t := 0) ha ha (by omega) ey (br_f (by decide) ⟨rfl, hW, hR⟩))
    · rw [ex, ey, nI_clamp (show p < 2 ^ 31 by omega), nI_clamp (show q < 2 ^ 31 by omega)]
      refine br_f (oh_m1 (by omega)) ⟨pk_in a 8 ha, pk_in p 24 hp, nm_e ?_⟩
      exact oy_ref5 (t := 0) ha ha (by omega) hq ey (br_t (by decide) ⟨pk_in a 8 ha, pk_in q 24 hq, nm_e ⟨rfl, hW, oh_R_pay hR ha hp hq ex ey⟩⟩)
theorem i_vc_collect {k : Nat} {u : SX} {v : SY} (I : i_Rel k u v) (hk : k + 4 ≤ 2049) : wpX_collect (fun u' => wpY_collect (fun v' => i_Rel (k + 4) u' v') v) u := by
  obtain ⟨wz, ws, sc, xr, xt, xp, xf, sn, ds⟩ := u
  obtain ⟨yr, yf, yp, aw⟩ := v
  obtain ⟨hW, hR⟩ := I
  unfold wpX_collect wpY_collect
  dsimp only
  refine ox_clean hW (fun r hr => oh_R_x hR hr) hR.1 (fun ws' c xt' sn' d hW' hX hL => ?_)
  have hkeep : ∀ n a, oh_P (oh_src xr 8) xf n a → xt a ≠ 0 → xt' a ≠ 0 := fun n a hp h => by
    rw [hL.1 a (oh_P_lt hp) (oh_Xd_n hX (oh_P_lt hp) hp)]
    exact h
  exact ⟨hW', oh_R_cleaned hR hkeep⟩
theorem i_vc_payload {k : Nat} {u : SX} {v : SY} (I : i_Rel k u v) (hk : k + 4 ≤ 2049) (v1 : Int32) : wpX_payload (fun r => wpY_payload (fun r' => r' = r ∧ i_Rel (k + 4) u v) v v1) u v1 := by
  obtain ⟨wz, ws, sc, xr, xt, xp, xf, sn, ds⟩ := u
  obtain ⟨yr, yf, yp, aw⟩ := v
  obtain ⟨hW, hR⟩ := I
  unfold wpX_payload wpY_payload
  dsimp only
  rcases oh_cls v1 with hb | ⟨a, ha, e1⟩
  · exact ox_obj_f hb (br_t rfl (oy_obj_f hb (br_f (by decide) ⟨rfl, hW, hR⟩)))
  · rw [e1]
    refine ox_obj ha ?_
    rcases oh_R_cases hR ha with ⟨ex, ey⟩ | ⟨p, q, hp, hq, ex, ey, epq⟩
    · refine br_t ex (oy_obj ha ?_)
      rw [ey]
      exact br_f (by decide) ⟨rfl, hW, hR⟩
    · rw [ex, nI_clamp (show p < 2 ^ 31 by omega)]
      refine br_f (oh_m1 (by omega)) ⟨pk_in p 24 hp, oy_obj ha ?_⟩
      rw [ey, nI_clamp (show q < 2 ^ 31 by omega)]
      exact br_t (nI_pos' (by omega)) ⟨pk_in q 24 hq, epq.symm, hW, hR⟩
theorem i_vc_held {k : Nat} {u : SX} {v : SY} (I : i_Rel k u v) (hk : k + 4 ≤ 2049) (v1 : Int32) : wpX_held (fun r => wpY_held (fun r' => r' = r ∧ i_Rel (k + 4) u v) v v1) u v1 := by
  obtain ⟨wz, ws, sc, xr, xt, xp, xf, sn, ds⟩ := u
  obtain ⟨yr, yf, yp, aw⟩ := v
  obtain ⟨hW, hR⟩ := I
  unfold wpX_held
  dsimp only
  rcases oh_cls v1 with hb | ⟨a, ha, e1⟩
  · exact ox_obj_f hb (br_t rfl (oy_held_f hb ⟨rfl, hW, hR⟩))
  · rw [e1]
    refine ox_obj ha ?_
    rcases oh_R_cases hR ha with ⟨ex, ey⟩ | ⟨p, q, hp, hq, ex, ey, epq⟩
    · exact br_t ex (oy_held_n ha ey ⟨rfl, hW, hR⟩)
    · rw [ex]
      exact br_f (oh_m1 (by omega)) (oy_held_y ha hq ey ⟨rfl, hW, hR⟩)
theorem i_vc_same {k : Nat} {u : SX} {v : SY} (I : i_Rel k u v) (hk : k + 4 ≤ 2049) (v1 : Int32) (v2 : Int32) : wpX_same (fun r => wpY_same (fun r' => r' = r ∧ i_Rel (k + 4) u v) v v1 v2) u v1 v2 := by
  obtain ⟨wz, ws, sc, xr, xt, xp, xf, sn, ds⟩ := u
  obtain ⟨yr, yf, yp, aw⟩ := v
  obtain ⟨hW, hR⟩ := I
  unfold wpX_same wpY_same
  dsimp only
  rcases oh_cls v1 with hb | ⟨a, ha, e1⟩
  · exact ox_obj_f hb (br_t rfl (oy_held_f hb (br_t rfl ⟨rfl, hW, hR⟩)))
  · rw [e1]
    refine ox_obj ha ?_
    rcases oh_R_cases hR ha with ⟨ex, ey⟩ | ⟨p, q, hp, hq, ex, ey, _⟩
    · exact br_t ex (oy_held_n ha ey (br_t rfl ⟨rfl, hW, hR⟩))
    · refine br_f (by rw [ex]; exact oh_m1 (by omega)) ?_
      rcases oh_cls v2 with hb | ⟨b, hb, e2⟩
      · exact ox_obj_f hb (br_f (by rw [ex]; exact oh_m1 (by omega)) (oy_held_y ha hq ey (br_f (by decide) (oy_held_f hb (br_t rfl ⟨rfl, hW, hR⟩)))))
      · rw [e2]
        refine ox_obj hb ?_
        rcases oh_R_cases hR hb with ⟨ex2, ey2⟩ | ⟨p2, q2, hp2, hq2, ex2, ey2, _⟩
        · exact br_f (by rw [ex, ex2]; exact oh_m1 (by omega)) (oy_held_y ha hq ey (br_f (by decide) (oy_held_n hb ey2 (br_t rfl ⟨rfl, hW, hR⟩))))
        · rw [nI_clamp (show a < 2 ^ 31 by omega), nI_clamp (show b < 2 ^ 31 by omega)]
          have hi := oh_R_eq hR ha hb
          refine br_c (fun h => ?_) (fun h => ?_)
          · exact oy_held_y ha hq ey (br_f (by decide) (oy_held_y hb hq2 ey2 (br_f (by decide) ⟨pk_in a 8 ha, pk_in b 8 hb, br_t (hi.mp h) ⟨rfl, hW, hR⟩⟩)))
          · exact oy_held_y ha hq ey (br_f (by decide) (oy_held_y hb hq2 ey2 (br_f (by decide) ⟨pk_in a 8 ha, pk_in b 8 hb, br_f (fun z => h (hi.mpr z)) ⟨rfl, hW, hR⟩⟩)))
theorem i_vc_reachable {k : Nat} {u : SX} {v : SY} (I : i_Rel k u v) (hk : k + 4 ≤ 2049) : wpX_reachable (fun r u' => wpY_reachable (fun r' v' => r' = r ∧ i_Rel (k + 4) u' v') v) u := by
  obtain ⟨wz, ws, sc, xr, xt, xp, xf, sn, ds⟩ := u
  obtain ⟨yr, yf, yp, aw⟩ := v
  obtain ⟨hW, hR⟩ := I
  unfold wpX_reachable
  dsimp only
  refine ox_all (fun r hr => oh_R_x hR hr) hR.1 (fun c s d hX => ?_)
  refine oy_reach (fun r hr => oh_R_y hR hr) hR.2.1 (fun w hY => ?_)
  exact ⟨(oh_R_sums hR oh_neg1 hX hY).1.symm, hW, hR⟩
theorem i_vc_reachableFrom {k : Nat} {u : SX} {v : SY} (I : i_Rel k u v) (hk : k + 4 ≤ 2049) (v1 : Int32) : wpX_reachableFrom (fun r u' => wpY_reachableFrom (fun r' v' => r' = r ∧ i_Rel (k + 4) u' v') v v1) u v1 := by
  obtain ⟨wz, ws, sc, xr, xt, xp, xf, sn, ds⟩ := u
  obtain ⟨yr, yf, yp, aw⟩ := v
  obtain ⟨hW, hR⟩ := I
  unfold wpX_reachableFrom wpY_reachableFrom
  dsimp only
  rcases oh_cls v1 with hb | ⟨a, ha, e1⟩
  · refine ox_obj_f hb (ox_one (Or.inl rfl) hR.1 (fun c s d hX => ?_))
    have e := (oh_Xd_no hX).1
    exact oy_held_f hb (br_t rfl ⟨by rw [e]; rfl, hW, hR⟩)
  · rw [e1]
    refine ox_obj ha ?_
    rcases oh_R_cases hR ha with ⟨ex, ey⟩ | ⟨p, q, hp, hq, ex, ey, _⟩
    · rw [ex]
      refine ox_one (Or.inl rfl) hR.1 (fun c s d hX => ?_)
      have e := (oh_Xd_no hX).1
      exact oy_held_n ha ey (br_t rfl ⟨by rw [e]; rfl, hW, hR⟩)
    · refine ox_one (oh_R_x hR ha) hR.1 (fun c s d hX => ?_)
      refine oy_held_y ha hq ey (br_f (by decide) (oy_spread (fun r hr => oh_R_y hR hr) hR.2.1 (fun w hY => ?_)))
      exact oy_found ⟨(oh_R_one hR ha hX hY).symm, hW, hR⟩
theorem i_vc_distance {k : Nat} {u : SX} {v : SY} (I : i_Rel k u v) (hk : k + 4 ≤ 2049) (v1 : Int32) (v2 : Int32) : wpX_distance (fun r u' => wpY_distance (fun r' v' => r' = r ∧ i_Rel (k + 4) u' v') v v1 v2) u v1 v2 := by
  obtain ⟨wz, ws, sc, xr, xt, xp, xf, sn, ds⟩ := u
  obtain ⟨yr, yf, yp, aw⟩ := v
  obtain ⟨hW, hR⟩ := I
  unfold wpX_distance wpY_distance
  dsimp only
  rcases oh_cls v1 with ha | ⟨a, ha, e1⟩
  · refine ox_obj_f ha ?_
    rcases oh_cls v2 with hb | ⟨b, hb, e2⟩
    · exact ox_obj_f hb (br_t rfl (oy_held_f ha (br_t rfl ⟨rfl, hW, hR⟩)))
    · rw [e2]
      refine ox_obj hb ?_
      rcases oh_R_cases hR hb with ⟨ex, ey⟩ | ⟨p, q, hp, hq, ex, ey, _⟩
      · exact br_t ex (oy_held_f ha (br_t rfl ⟨rfl, hW, hR⟩))
      · rw [ex, nI_clamp (show p < 2 ^ 31 by omega)]
        refine br_f (oh_m1 (by omega)) (ox_one (Or.inl rfl) hR.1 (fun c s d hX => ?_))
        exact ⟨pk_in p 24 hp, br_t ((oh_Xd_no hX).2 p hp) (oy_held_f ha (br_t rfl ⟨rfl, hW, hR⟩))⟩
  · rw [e1]
    refine ox_obj ha ?_
    rcases oh_R_cases hR ha with ⟨ex1, ey1⟩ | ⟨p1, q1, hp1, hq1, ex1, ey1, _⟩
    · rw [ex1]
      rcases oh_cls v2 with hb | ⟨b, hb, e2⟩
      · exact ox_obj_f hb (br_t rfl (oy_held_n ha ey1 (br_t rfl ⟨rfl, hW, hR⟩)))
      · rw [e2]
        refine ox_obj hb ?_
        rcases oh_R_cases hR hb with ⟨ex, ey⟩ | ⟨p, q, hp, hq, ex, ey, _⟩
        · exact br_t ex (oy_held_n ha ey1 (br_t rfl ⟨rfl, hW, hR⟩))
        · rw [ex, nI_clamp (show p < 2 ^ 31 by omega)]
          refine br_f (oh_m1 (by omega)) (ox_one (Or.inl rfl) hR.1 (fun c s d hX => ?_))
          exact ⟨pk_in p 24 hp, br_t ((oh_Xd_no hX).2 p hp) (oy_held_n ha ey1 (br_t rfl ⟨rfl, hW, hR⟩))⟩
    · rcases oh_cls v2 with hb | ⟨b, hb, e2⟩
      · exact ox_obj_f hb (br_t rfl (oy_held_y ha hq1 ey1 (br_f (by decide) (oy_held_f hb (br_t rfl ⟨rfl, hW, hR⟩)))))
      · rw [e2]
        refine ox_obj hb ?_
        rcases oh_R_cases hR hb with ⟨ex, ey⟩ | ⟨p, q, hp, hq, ex, ey, _⟩
        · exact br_t ex (oy_held_y ha hq1 ey1 (br_f (by decide) (oy_held_n hb ey (br_t rfl ⟨rfl, hW, hR⟩))))
        · refine br_f (by rw [ex]; exact oh_m1 (by omega)) (ox_one (oh_R_x hR ha) hR.1 (fun c s d hX => ?_))
          rw [ex, nI_clamp (show p < 2 ^ 31 by omega)]
          refine ⟨pk_in p 24 hp, br_c (fun hd => ?_) (fun hd => ⟨pk_in p 24 hp, ?_⟩)⟩
          · refine oy_held_y ha hq1 ey1 (br_f (by decide) (oy_held_y hb hq ey (br_f (by decide) (oy_spread (fun r hr => oh_R_y hR hr) hR.2.1 (fun w hY => ⟨pk_in b 8 hb, ?_⟩)))))
            dsimp only
            rw [nI_clamp (show b < 2 ^ 31 by omega), ey, nI_clamp (show q < 2 ^ 31 by omega)]
            refine ⟨pk_in q 24 hq, ?_⟩
            rcases oh_R_dist hR ha hb hX hY hp hq ex ey with ⟨_, ew⟩ | ⟨n, hn, ed, ew⟩
            · rw [ew]
              exact pk_le 1000 1000 (fun _ => ⟨rfl, hW, hR⟩) (fun h => absurd h (by omega))
            · exact absurd (ed.symm.trans hd) (oh_m1 (by omega))
          · refine oy_held_y ha hq1 ey1 (br_f (by decide) (oy_held_y hb hq ey (br_f (by decide) (oy_spread (fun r hr => oh_R_y hR hr) hR.2.1 (fun w hY => ⟨pk_in b 8 hb, ?_⟩)))))
            dsimp only
            rw [nI_clamp (show b < 2 ^ 31 by omega), ey, nI_clamp (show q < 2 ^ 31 by omega)]
            refine ⟨pk_in q 24 hq, ?_⟩
            rcases oh_R_dist hR ha hb hX hY hp hq ex ey with ⟨ed, _⟩ | ⟨n, hn, ed, ew⟩
            · exact absurd ed hd
            · rw [ew, ed]
              exact pk_le 1000 n (fun h => absurd h (by omega)) (fun h => ⟨pk_in b 8 hb, pk_in q 24 hq, rfl, hW, hR⟩)
theorem i_vc_sum {k : Nat} {u : SX} {v : SY} (I : i_Rel k u v) (hk : k + 4 ≤ 2049) : wpX_sum (fun r u' => wpY_sum (fun r' v' => r' = r ∧ i_Rel (k + 4) u' v') v) u := by
  obtain ⟨wz, ws, sc, xr, xt, xp, xf, sn, ds⟩ := u
  obtain ⟨yr, yf, yp, aw⟩ := v
  obtain ⟨hW, hR⟩ := I
  unfold wpX_sum
  dsimp only
  refine ox_all (fun r hr => oh_R_x hR hr) hR.1 (fun c s d hX => ?_)
  refine ⟨c + 1, ox_sum8 (oh_Xd_le hX) (fun i hi => oh_Xd_s hX hi) ?_ c 0 (by omega)⟩
  unfold wpY_sum
  dsimp only
  refine oy_spread (fun r hr => oh_R_y hR hr) hR.2.1 (fun w hY => ?_)
  exact ⟨25, oy_sum9 ⟨(oh_R_sums hR oh_neg1 hX hY).2.symm, hW, hR⟩ 24 0 (by omega)⟩
end
