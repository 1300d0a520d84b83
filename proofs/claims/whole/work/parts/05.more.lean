section
/-! a walk ends: the pure walk, for the branches in which the class does not walk -/
theorem oh_See_ex {c : Nat} {s d : Nat → Int32} {x : Int32} {n : Nat} {Q : Nat → (Nat → Int32) → (Nat → Int32) → Prop} (h : oh_See c s d x n Q) : ∃ c' s' d', Q c' s' d' := by
  rcases h with ⟨_, h⟩ | ⟨_, _, _, _, h⟩ | ⟨_, _, _, _, _, h⟩
  · exact ⟨_, _, _, h⟩
  · exact ⟨_, _, _, h⟩
  · exact ⟨_, _, _, h⟩
theorem oh_RI_ex {xr f : Nat → Int32} {R : Nat} (hv : ∀ r, r < R → oh_val (xr r)) : ∀ r, r ≤ R → ∃ c s d, oh_RI (oh_P (oh_src xr R) f) xr r c s d := by
  intro r
  induction r with
  | zero => exact fun _ => ⟨0, fun _ => 0, fun _ => -1, oh_RI_0 _ _ _ _ (fun _ _ => rfl)⟩
  | succ r ih =>
    intro hr
    obtain ⟨c, s, d, h⟩ := ih (by omega)
    exact oh_See_ex (oh_RI_s h (by omega) (hv r (by omega)))
theorem oh_OI_ex {src : Nat → Prop} {f : Nat → Int32} (hf : ∀ k, k < 72 → oh_val (f k)) : ∀ m i c s d, 24 - i ≤ m → oh_OI src f i c s d → ∃ c s d, oh_OI src f c c s d := by
  intro m
  induction m with
  | zero =>
    intro i c s d hm h
    have h1 := oh_OI_c h
    have e : i = c := by omega
    rw [e] at h
    exact ⟨c, s, d, h⟩
  | succ m ih =>
    intro i c s d hm h
    have h1 := oh_OI_c h
    by_cases hi : i < c
    · obtain ⟨ob, nx, hob, _, _, h2⟩ := oh_OI_II h hi
      obtain ⟨c1, s1, d1, h3⟩ := oh_See_ex (oh_II_s h2 (by omega) (hf _ (by omega)))
      obtain ⟨c2, s2, d2, h4⟩ := oh_See_ex (oh_II_s h3 (by omega) (hf _ (by omega)))
      obtain ⟨c3, s3, d3, h5⟩ := oh_See_ex (oh_II_s h4 (by omega) (hf _ (by omega)))
      exact ih (i + 1) c3 s3 d3 (by omega) (oh_II_OI h5)
    · have e : i = c := by omega
      rw [e] at h
      exact ⟨c, s, d, h⟩
theorem oh_Xd_ex {xr f : Nat → Int32} {R : Nat} (hv : ∀ r, r < R → oh_val (xr r)) (hf : ∀ k, k < 72 → oh_val (f k)) : ∃ c s d, oh_Xd (oh_P (oh_src xr R) f) c s d := by
  obtain ⟨c, s, d, h⟩ := oh_RI_ex (f := f) hv R (Nat.le_refl _)
  obtain ⟨c', s', d', h'⟩ := oh_OI_ex hf 24 0 c s d (by omega) (oh_RI_OI h)
  exact ⟨c', s', d', oh_OI_Xd h'⟩
section
variable {xr xt xp xf yr yf yp : Nat → Int32}
/-- a free slot: then the reference isn't full -/
theorem oh_R_notfull (h : oh_R xr xt xp xf yr yf yp) {w : Nat → Int32} {z : Int32} {s : Nat} (hz : z < 0) (hY : oh_Yd (oh_P (oh_ysrc yr z) yf) w) (hs : s < 24) (h0 : xt s = 0) : oh_S (fun b => decide (w b < 1000)) (fun _ => 1) 24 ≠ 24 := by
  obtain ⟨c, sn, d, hX⟩ := oh_Xd_ex (xr := xr) (f := xf) (R := 8) (fun r hr => oh_R_x h hr) h.1
  intro e
  have h1 := (oh_R_full h hz hX hY).mp e s hs
  obtain ⟨n, hn⟩ := oh_Xd_r hX hs h1
  exact oh_R_taken h hn h0
/-- what the reference calls far can't be reached -/
theorem oh_R_far (h : oh_R xr xt xp xf yr yf yp) {w : Nat → Int32} {p : Nat} (hY : oh_Yd (oh_P (oh_ysrc yr (-1)) yf) w) (hp : p < 24) (e : w p = 1000) : ∀ n, ¬ oh_P (oh_ysrc yr (-1)) yf n p := by
  obtain ⟨c, sn, d, hX⟩ := oh_Xd_ex (xr := xr) (f := xf) (R := 8) (fun r hr => oh_R_x h hr) h.1
  obtain ⟨_, _, B, hB, hR⟩ := h
  have hS := oh_Sr_all hB hR oh_neg1
  intro n hn
  obtain ⟨a, hab, hpx⟩ := oh_bwd hB hS n p hn
  rcases oh_join hX hY (oh_iff hB hS hab) (hB.1 a p hab).1 hp with ⟨_, _, h3⟩ | ⟨m, hm, _, e4, _⟩
  · exact h3 n hpx
  · have e5 : m = 1000 := oh_inj (e4.symm.trans (e.trans oh_1000.symm)) (by omega) (by omega)
    omega
/-- not full: one is far -/
theorem oh_far_ex {P : Nat → Nat → Prop} {w : Nat → Int32} (hY : oh_Yd P w) (hall : ∀ q, q < 24 → w q ≠ 1000) : oh_S (fun b => decide (w b < 1000)) (fun _ => 1) 24 = 24 := by
  rw [oh_S_cnt, oh_cnt_all 24]
  · exact oh_24
  · intro i hi
    obtain ⟨m, hm, e, _⟩ := oh_Yd_v hY hi
    refine decide_eq_true ?_
    have h1 := hall i hi
    rw [e] at h1
    rw [e]
    refine (oh_lt1000 hm).mpr ?_
    by_cases e2 : m = 1000
    · rw [e2] at h1
      exact absurd oh_1000 h1
    · omega
end
/-! sweeping -/
def oh_SW (xt0 d : Nat → Int32) (z v : Nat) (xt : Nat → Int32) (ws : Nat) (fr : Int32) : Prop :=
  ws = (z + v) % 24 ∧ (∀ j, j < 24 → d j ≠ -1 → xt j = xt0 j) ∧ ((fr = 0 ∧ xt = xt0 ∧ ∀ q, q < v → xt0 ((z + q) % 24) = 0 ∨ d ((z + q) % 24) ≠ -1) ∨ (fr = 1 ∧ ∃ j, j < 24 ∧ xt j = 0))
theorem oh_SW_0 (xt0 d : Nat → Int32) {z : Nat} (hz : z < 24) : oh_SW xt0 d z 0 xt0 z 0 :=
  ⟨by omega, fun _ _ _ => rfl, Or.inl ⟨rfl, rfl, fun q hq => by omega⟩⟩
theorem oh_SW_lt {xt0 d : Nat → Int32} {z v : Nat} {xt : Nat → Int32} {ws : Nat} {fr : Int32} (h : oh_SW xt0 d z v xt ws fr) : ws < 24 := by
  have := h.1
  omega
theorem oh_SW_n {xt0 d : Nat → Int32} {z v : Nat} {xt : Nat → Int32} {ws ws' : Nat} {fr : Int32} (h : oh_SW xt0 d z v xt ws fr) (hn : xt ws = 0 ∨ d ws ≠ -1) (hw : ws' = if ws + 1 < 24 then ws + 1 else 0) : oh_SW xt0 d z (v + 1) xt ws' fr := by
  obtain ⟨h1, h2, h3⟩ := h
  refine ⟨?_, h2, ?_⟩
  · rw [hw]
    split <;> omega
  · rcases h3 with ⟨e1, e2, e3⟩ | h3
    · refine Or.inl ⟨e1, e2, fun q hq => ?_⟩
      by_cases hq2 : q < v
      · exact e3 q hq2
      · have e4 : q = v := by omega
        rw [e4, ← h1, ← e2]
        exact hn
    · exact Or.inr h3
theorem oh_SW_s {xt0 d : Nat → Int32} {z v : Nat} {xt : Nat → Int32} {ws ws' : Nat} {fr : Int32} (h : oh_SW xt0 d z v xt ws fr) (hd : d ws = -1) (hw : ws' = if ws + 1 < 24 then ws + 1 else 0) : oh_SW xt0 d z (v + 1) (upd xt ws 0) ws' 1 := by
  have hlt := oh_SW_lt h
  obtain ⟨h1, h2, h3⟩ := h
  refine ⟨?_, fun j hj hdj => ?_, Or.inr ⟨rfl, ws, hlt, pk_us⟩⟩
  · rw [hw]
    split <;> omega
  · have hne : j ≠ ws := by
      intro e
      rw [e] at hdj
      exact hdj hd
    rw [pk_un hne]
    exact h2 j hj hdj
/-- the windows' loop: v slots looked at after i windows -/
def oh_CW (xt0 d : Nat → Int32) (i : Nat) (xt : Nat → Int32) (ws : Nat) (fr : Int32) : Prop :=
  ∃ z v, z < 24 ∧ i ≤ v ∧ oh_SW xt0 d z v xt ws fr
theorem oh_CW_s {xt0 d : Nat → Int32} {i k : Nat} {xt xt' : Nat → Int32} {ws ws' : Nat} {fr : Int32} (h : oh_CW xt0 d i xt ws 0) (hk : 1 ≤ k) (h2 : oh_SW xt d ws k xt' ws' fr) : oh_CW xt0 d (i + 1) xt' ws' fr := by
  obtain ⟨z, v, hz, hv, h1, h3, h4⟩ := h
  obtain ⟨g1, g2, g3⟩ := h2
  have e2 : xt = xt0 ∧ ∀ q, q < v → xt0 ((z + q) % 24) = 0 ∨ d ((z + q) % 24) ≠ -1 := by
    rcases h4 with ⟨_, h4⟩ | ⟨h4, _⟩
    · exact h4
    · exact absurd h4 (by decide)
  obtain ⟨e2, e3⟩ := e2
  refine ⟨z, v + k, hz, by omega, by omega, fun j hj hd => (g2 j hj hd).trans (by rw [e2]), ?_⟩
  rcases g3 with ⟨f1, f2, f3⟩ | g3
  · refine Or.inl ⟨f1, f2.trans e2, fun q hq => ?_⟩
    by_cases hq2 : q < v
    · exact e3 q hq2
    · have := f3 (q - v) (by omega)
      have e5 : (ws + (q - v)) % 24 = (z + q) % 24 := by omega
      rw [e5, e2] at this
      exact this
  · exact Or.inr g3
/-- what a cleaning leaves -/
def oh_CL (xt0 d xt : Nat → Int32) : Prop :=
  (∀ j, j < 24 → d j ≠ -1 → xt j = xt0 j) ∧ ((∃ j, j < 24 ∧ xt j = 0) ∨ ∀ j, j < 24 → xt0 j = 0 ∨ d j ≠ -1)
theorem oh_CW_24 {xt0 d : Nat → Int32} {i : Nat} {xt : Nat → Int32} {ws : Nat} {fr : Int32} (h : oh_CW xt0 d i xt ws fr) (hi : 24 ≤ i ∨ fr ≠ 0) : oh_CL xt0 d xt := by
  obtain ⟨z, v, hz, hv, h1, h3, h4⟩ := h
  refine ⟨h3, ?_⟩
  rcases h4 with ⟨f1, f2, f3⟩ | ⟨_, h4⟩
  · rcases hi with hi | hi
    · refine Or.inr (fun j hj => ?_)
      have := f3 ((j + 24 - z) % 24) (by omega)
      have e : (z + (j + 24 - z) % 24) % 24 = j := by omega
      rw [e] at this
      exact this
    · exact absurd f1 hi
  · exact Or.inl h4
end
