section
/-- there is a way of n fields from a source to place j -/
def oh_P (src : Nat → Prop) (f : Nat → Int32) : Nat → Nat → Prop
  | 0 => fun j => j < 24 ∧ src j
  | n + 1 => fun j => j < 24 ∧ ∃ i t, i < 24 ∧ t < 3 ∧ oh_P src f n i ∧ f (i * 3 + t) = nI j
theorem oh_P_lt {src : Nat → Prop} {f : Nat → Int32} {n j : Nat} (h : oh_P src f n j) : j < 24 := by
  cases n with
  | zero => exact h.1
  | succ n => exact h.1
theorem oh_P_e {src : Nat → Prop} {f : Nat → Int32} {n i t j : Nat} (h : oh_P src f n i) (hi : i < 24) (ht : t < 3) (hj : j < 24) (e : f (i * 3 + t) = nI j) : oh_P src f (n + 1) j :=
  ⟨hj, i, t, hi, ht, h, e⟩
def oh_val (x : Int32) : Prop := x = -1 ∨ ∃ j, j < 24 ∧ x = nI j
def oh_xd : Nat → Int32
  | 0 => -1
  | n + 1 => nI n
theorem oh_xd_m1 {n : Nat} (h : n ≤ 24) : oh_xd n = -1 ↔ n = 0 := by
  cases n with
  | zero => exact ⟨fun _ => rfl, fun _ => rfl⟩
  | succ n => exact ⟨fun e => absurd e (oh_m1 (by omega)), fun e => by omega⟩
def oh_u (f : Nat → Nat) (k x : Nat) : Nat → Nat := fun j => if j = k then x else f j
theorem oh_u_s {f : Nat → Nat} {k x : Nat} : oh_u f k x k = x := if_pos rfl
theorem oh_u_n {f : Nat → Nat} {k x j : Nat} (h : j ≠ k) : oh_u f k x j = f j := if_neg h
/-- what a walk has seen so far: sg the order, dl the distance plus one (0: unseen) -/
def oh_C (P : Nat → Nat → Prop) (c : Nat) (s d : Nat → Int32) (sg dl : Nat → Nat) : Prop :=
  (∀ j, j < 24 → d j = oh_xd (dl j)) ∧ (∀ j n, j < 24 → dl j = n + 1 → P n j) ∧
  (∀ k, k < c → s k = nI (sg k) ∧ sg k < 24 ∧ 1 ≤ dl (sg k) ∧ dl (sg k) ≤ k + 1) ∧
  (∀ j, j < 24 → dl j ≠ 0 → ∃ k, k < c ∧ sg k = j) ∧
  (∀ k k', k < k' → k' < c → sg k ≠ sg k' ∧ dl (sg k) ≤ dl (sg k')) ∧
  c = oh_cnt (fun j => decide (dl j ≠ 0)) 24
theorem oh_C_24 {P : Nat → Nat → Prop} {c : Nat} {s d : Nat → Int32} {sg dl : Nat → Nat} (h : oh_C P c s d sg dl) : c ≤ 24 := by
  rw [h.2.2.2.2.2]
  exact oh_cnt_le _ _
theorem oh_C_dl {P : Nat → Nat → Prop} {c : Nat} {s d : Nat → Int32} {sg dl : Nat → Nat} (h : oh_C P c s d sg dl) {j : Nat} (hj : j < 24) : dl j ≤ c := by
  by_cases e : dl j = 0
  · omega
  · obtain ⟨k, hk, ek⟩ := h.2.2.2.1 j hj e
    have h1 := (h.2.2.1 k hk).2.2.2
    rw [ek] at h1
    omega
theorem oh_C_0 (P : Nat → Nat → Prop) (s d : Nat → Int32) (hd : ∀ j, j < 24 → d j = -1) : oh_C P 0 s d (fun _ => 0) (fun _ => 0) := by
  refine ⟨fun j hj => hd j hj, fun j n _ e => ?_, fun k hk => ?_, fun j _ e => ?_, fun k k' _ hk => ?_, ?_⟩
  · exact absurd e (by simp)
  · omega
  · exact absurd rfl e
  · omega
  · first | rfl | decide | simp [oh_cnt]
theorem oh_C_add {P : Nat → Nat → Prop} {c : Nat} {s d : Nat → Int32} {sg dl : Nat → Nat} (h : oh_C P c s d sg dl) {t n : Nat} (ht : t < 24) (h0 : dl t = 0) (hP : P n t) (hn : n ≤ c) (hk : ∀ k, k < c → dl (sg k) ≤ n + 1) : c < 24 ∧ oh_C P (c + 1) (upd s c (nI t)) (upd d t (nI n)) (oh_u sg c t) (oh_u dl t (n + 1)) := by
  obtain ⟨h1, h2, h3, h4, h5, h6⟩ := h
  have hc : c < 24 := by
    have := oh_cnt_lt (p := fun j => decide (dl j ≠ 0)) (i := t) (by simp [h0]) 24 ht
    omega
  have hsg : ∀ k, k < c → sg k ≠ t := fun k hk e => by
    have := (h3 k hk).2.2.1
    rw [e, h0] at this
    omega
  have hd : ∀ k, k < c → oh_u dl t (n + 1) (oh_u sg c t k) = dl (sg k) := fun k hk => by
    rw [oh_u_n (show k ≠ c by omega), oh_u_n (hsg k hk)]
  have hd' : oh_u dl t (n + 1) (oh_u sg c t c) = n + 1 := by rw [oh_u_s, oh_u_s]
  refine ⟨hc, ?_, ?_, ?_, ?_, ?_, ?_⟩
  · intro j hj
    by_cases e : j = t
    · simp only [e, pk_us, oh_u_s, oh_xd]
    · rw [pk_un e, oh_u_n e]
      exact h1 j hj
  · intro j m hj hm
    by_cases e : j = t
    · rw [e, oh_u_s] at hm
      have : m = n := by omega
      rw [e, this]
      exact hP
    · rw [oh_u_n e] at hm
      exact h2 j m hj hm
  · intro k hk'
    by_cases e : k = c
    · rw [e, hd', pk_us, oh_u_s]
      exact ⟨rfl, ht, by omega, by omega⟩
    · have hk2 : k < c := by omega
      rw [hd k hk2, pk_un e, oh_u_n e]
      exact h3 k hk2
  · intro j hj hne
    by_cases e : j = t
    · exact ⟨c, by omega, by rw [oh_u_s, e]⟩
    · rw [oh_u_n e] at hne
      obtain ⟨k, hk', ek⟩ := h4 j hj hne
      exact ⟨k, by omega, by rw [oh_u_n (show k ≠ c by omega)]; exact ek⟩
  · intro k k' hkk hk'
    by_cases e : k' = c
    · have hk2 : k < c := by omega
      rw [e, hd', hd k hk2, oh_u_s, oh_u_n (show k ≠ c by omega)]
      exact ⟨hsg k hk2, hk k hk2⟩
    · have hk2 : k < c := by omega
      have hk3 : k' < c := by omega
      rw [hd k hk2, hd k' hk3, oh_u_n (show k ≠ c by omega), oh_u_n (show k' ≠ c by omega)]
      exact h5 k k' hkk hk3
  · have := oh_cnt_add (p := fun j => decide (dl j ≠ 0)) (q := fun j => decide (oh_u dl t (n + 1) j ≠ 0)) (t := t) (by simp [h0]) (by simp [oh_u_s]) 24 ht (fun i _ hne => by simp only [oh_u_n hne])
    rw [this, ← h6]
/-- what one look at x, at distance n, leaves -/
def oh_Nx (P : Nat → Nat → Prop) (c : Nat) (sg dl : Nat → Nat) (x : Int32) (n : Nat) (c' : Nat) (s' d' : Nat → Int32) : Prop :=
  ∃ sg' dl' : Nat → Nat, oh_C P c' s' d' sg' dl' ∧ c ≤ c' ∧ (∀ k, k < c → sg' k = sg k) ∧ (∀ j, dl j ≠ 0 → dl' j = dl j) ∧ (∀ k, c ≤ k → k < c' → dl' (sg' k) = n + 1) ∧ (∀ t, t < 24 → x = nI t → dl' t ≠ 0 ∧ dl' t ≤ n + 1)
theorem oh_Nx_same {P : Nat → Nat → Prop} {c : Nat} {s d : Nat → Int32} {sg dl : Nat → Nat} {x : Int32} {n : Nat} (h : oh_C P c s d sg dl) (hk : ∀ k, k < c → dl (sg k) ≤ n + 1) (hx : x = -1 ∨ ∃ t, t < 24 ∧ x = nI t ∧ dl t ≠ 0) : oh_Nx P c sg dl x n c s d := by
  refine ⟨sg, dl, h, Nat.le_refl _, fun _ _ => rfl, fun _ _ => rfl, fun k h1 h2 => by omega, fun t ht e => ?_⟩
  rcases hx with hx | ⟨t', ht', hx, hne⟩
  · exact absurd (e.symm.trans hx) (oh_m1 (by omega))
  · have e2 : t = t' := oh_inj (e.symm.trans hx) (by omega) (by omega)
    rw [e2]
    obtain ⟨k, hk', ek⟩ := h.2.2.2.1 t' ht' hne
    have := hk k hk'
    rw [ek] at this
    exact ⟨hne, this⟩
theorem oh_Nx_add {P : Nat → Nat → Prop} {c : Nat} {s d : Nat → Int32} {sg dl : Nat → Nat} {t n : Nat} (h : oh_C P c s d sg dl) (ht : t < 24) (h0 : dl t = 0) (hP : P n t) (hn : n ≤ c) (hk : ∀ k, k < c → dl (sg k) ≤ n + 1) : c < 24 ∧ oh_Nx P c sg dl (nI t) n (c + 1) (upd s c (nI t)) (upd d t (nI n)) := by
  obtain ⟨hc, hC⟩ := oh_C_add h ht h0 hP hn hk
  refine ⟨hc, oh_u sg c t, oh_u dl t (n + 1), hC, by omega, fun k hk' => oh_u_n (by omega), fun j hj => oh_u_n (fun e => hj (by rw [e]; exact h0)), fun k h1 h2 => ?_, fun t' ht' e => ?_⟩
  · have e : k = c := by omega
    rw [e, oh_u_s, oh_u_s]
  · have e2 : t = t' := oh_inj e (by omega) (by omega)
    rw [← e2, oh_u_s]
    exact ⟨by omega, by omega⟩
/-- the look itself, free of the ghosts -/
def oh_See (c : Nat) (s d : Nat → Int32) (x : Int32) (n : Nat) (Q : Nat → (Nat → Int32) → (Nat → Int32) → Prop) : Prop :=
  (x = -1 ∧ Q c s d) ∨ (∃ t, t < 24 ∧ x = nI t ∧ d t ≠ -1 ∧ Q c s d) ∨ (∃ t, t < 24 ∧ x = nI t ∧ d t = -1 ∧ c < 24 ∧ Q (c + 1) (upd s c (nI t)) (upd d t (nI n)))
theorem oh_see {P : Nat → Nat → Prop} {c : Nat} {s d : Nat → Int32} {sg dl : Nat → Nat} {x : Int32} {n : Nat} {Q : Nat → (Nat → Int32) → (Nat → Int32) → Prop} (h : oh_C P c s d sg dl) (hv : oh_val x) (hP : ∀ t, t < 24 → x = nI t → P n t) (hn : n ≤ c) (hk : ∀ k, k < c → dl (sg k) ≤ n + 1) (hQ : ∀ c' s' d', oh_Nx P c sg dl x n c' s' d' → Q c' s' d') : oh_See c s d x n Q := by
  rcases hv with hx | ⟨t, ht, hx⟩
  · exact Or.inl ⟨hx, hQ _ _ _ (oh_Nx_same h hk (Or.inl hx))⟩
  · have h24 := oh_C_24 h
    have hdl := oh_C_dl h ht
    have e1 := h.1 t ht
    by_cases e : dl t = 0
    · refine Or.inr (Or.inr ⟨t, ht, hx, ?_, ?_⟩)
      · rw [e1, e]; rfl
      · have h2 := oh_Nx_add h ht e (hP t ht hx) hn hk
        rw [← hx] at h2
        rw [← hx]
        exact ⟨h2.1, hQ _ _ _ h2.2⟩
    · refine Or.inr (Or.inl ⟨t, ht, hx, ?_, hQ _ _ _ (oh_Nx_same h hk (Or.inr ⟨t, ht, hx, e⟩))⟩)
      rw [e1]
      intro e2
      exact e ((oh_xd_m1 (by omega)).mp e2)
def oh_src (xr : Nat → Int32) (R : Nat) : Nat → Prop := fun j => ∃ q, q < R ∧ xr q = nI j
/-- the roots' loop -/
def oh_RI (P : Nat → Nat → Prop) (xr : Nat → Int32) (r c : Nat) (s d : Nat → Int32) : Prop :=
  ∃ sg dl : Nat → Nat, oh_C P c s d sg dl ∧ (∀ k, k < c → dl (sg k) = 1) ∧ (∀ q j, q < r → j < 24 → xr q = nI j → dl j = 1)
theorem oh_RI_0 (P : Nat → Nat → Prop) (xr : Nat → Int32) (s d : Nat → Int32) (hd : ∀ j, j < 24 → d j = -1) : oh_RI P xr 0 0 s d :=
  ⟨_, _, oh_C_0 P s d hd, fun k hk => by omega, fun q j hq => by omega⟩
theorem oh_RI_s {xr : Nat → Int32} {f : Nat → Int32} {R r c : Nat} {s d : Nat → Int32} (h : oh_RI (oh_P (oh_src xr R) f) xr r c s d) (hr : r < R) (hv : oh_val (xr r)) : oh_See c s d (xr r) 0 (fun c' s' d' => oh_RI (oh_P (oh_src xr R) f) xr (r + 1) c' s' d') := by
  obtain ⟨sg, dl, hC, h1, h2⟩ := h
  refine oh_see hC hv (fun t ht e => ⟨ht, r, hr, e⟩) (Nat.zero_le _) (fun k hk => by have := h1 k hk; omega) ?_
  intro c' s' d' hN
  obtain ⟨sg', dl', hC', hcc, hsg, hdl, hnew, hx⟩ := hN
  refine ⟨sg', dl', hC', fun k hk => ?_, fun q j hq hj e => ?_⟩
  · by_cases hk2 : k < c
    · have := h1 k hk2
      rw [hsg k hk2, hdl _ (by omega)]
      exact this
    · exact hnew k (by omega) hk
  · by_cases hq2 : q < r
    · have := h2 q j hq2 hj e
      rw [hdl j (by omega)]
      exact this
    · have e2 : q = r := by omega
      rw [e2] at e
      have := hx j hj e
      omega
/-- the queue's loop -/
def oh_G (f : Nat → Int32) (i : Nat) (sg dl : Nat → Nat) : Prop :=
  ∀ k t j, k < i → t < 3 → j < 24 → f (sg k * 3 + t) = nI j → dl j ≠ 0 ∧ dl j ≤ dl (sg k) + 1
def oh_OI (src : Nat → Prop) (f : Nat → Int32) (i c : Nat) (s d : Nat → Int32) : Prop :=
  ∃ sg dl : Nat → Nat, oh_C (oh_P src f) c s d sg dl ∧ i ≤ c ∧ (∀ j, j < 24 → src j → dl j = 1) ∧ oh_G f i sg dl ∧ (i < c → ∀ k, k < c → dl (sg k) ≤ dl (sg i) + 1)
def oh_II (src : Nat → Prop) (f : Nat → Int32) (i ob nx t c : Nat) (s d : Nat → Int32) : Prop :=
  ∃ sg dl : Nat → Nat, oh_C (oh_P src f) c s d sg dl ∧ i < c ∧ (∀ j, j < 24 → src j → dl j = 1) ∧ oh_G f i sg dl ∧ sg i = ob ∧ dl ob = nx ∧ (∀ k, k < c → dl (sg k) ≤ nx + 1) ∧ (∀ q j, q < t → j < 24 → f (ob * 3 + q) = nI j → dl j ≠ 0 ∧ dl j ≤ nx + 1)
theorem oh_RI_OI {xr f : Nat → Int32} {R c : Nat} {s d : Nat → Int32} (h : oh_RI (oh_P (oh_src xr R) f) xr R c s d) : oh_OI (oh_src xr R) f 0 c s d := by
  obtain ⟨sg, dl, hC, h1, h2⟩ := h
  refine ⟨sg, dl, hC, Nat.zero_le _, fun j hj hs => ?_, fun k t j hk => by omega, fun h0 k hk => ?_⟩
  · obtain ⟨q, hq, e⟩ := hs
    exact h2 q j hq hj e
  · have := h1 k hk
    omega
theorem oh_OI_c {src : Nat → Prop} {f : Nat → Int32} {i c : Nat} {s d : Nat → Int32} (h : oh_OI src f i c s d) : i ≤ c ∧ c ≤ 24 := by
  obtain ⟨sg, dl, hC, hi, _⟩ := h
  exact ⟨hi, oh_C_24 hC⟩
theorem oh_OI_II {src : Nat → Prop} {f : Nat → Int32} {i c : Nat} {s d : Nat → Int32} (h : oh_OI src f i c s d) (hi : i < c) : ∃ ob nx, ob < 24 ∧ s i = nI ob ∧ d ob + 1 = nI nx ∧ oh_II src f i ob nx 0 c s d := by
  obtain ⟨sg, dl, hC, _, hs, hG, hm⟩ := h
  obtain ⟨e1, hlt, hpos, _⟩ := hC.2.2.1 i hi
  refine ⟨sg i, dl (sg i), hlt, e1, ?_, sg, dl, hC, hi, hs, hG, rfl, rfl, hm hi, fun q j hq => by omega⟩
  rw [hC.1 (sg i) hlt]
  obtain ⟨m, em⟩ : ∃ m, dl (sg i) = m + 1 := ⟨dl (sg i) - 1, by omega⟩
  rw [em, oh_xd, nI_1]
theorem oh_II_c {src : Nat → Prop} {f : Nat → Int32} {i ob nx t c : Nat} {s d : Nat → Int32} (h : oh_II src f i ob nx t c s d) : i < c ∧ c ≤ 24 := by
  obtain ⟨sg, dl, hC, hi, _⟩ := h
  exact ⟨hi, oh_C_24 hC⟩
theorem oh_II_OI {src : Nat → Prop} {f : Nat → Int32} {i ob nx c : Nat} {s d : Nat → Int32} (h : oh_II src f i ob nx 3 c s d) : oh_OI src f (i + 1) c s d := by
  obtain ⟨sg, dl, hC, hi, hs, hG, eo, en, hm, hf⟩ := h
  refine ⟨sg, dl, hC, hi, hs, fun k t j hk ht hj e => ?_, fun h1 k hk => ?_⟩
  · by_cases hk2 : k < i
    · exact hG k t j hk2 ht hj e
    · have e2 : k = i := by omega
      rw [e2, eo] at e
      have := hf t j ht hj e
      rw [e2, eo, en]
      exact this
  · have h2 := (hC.2.2.2.2.1 i (i + 1) (by omega) h1).2
    have h3 := hm k hk
    rw [eo, en] at h2
    omega
theorem oh_II_s {src : Nat → Prop} {f : Nat → Int32} {i ob nx t c : Nat} {s d : Nat → Int32} (h : oh_II src f i ob nx t c s d) (ht : t < 3) (hv : oh_val (f (ob * 3 + t))) : oh_See c s d (f (ob * 3 + t)) nx (fun c' s' d' => oh_II src f i ob nx (t + 1) c' s' d') := by
  obtain ⟨sg, dl, hC, hi, hs, hG, eo, en, hm, hf⟩ := h
  obtain ⟨_, hlt, hpos, hle⟩ := hC.2.2.1 i hi
  rw [eo] at hlt
  rw [eo, en] at hpos hle
  refine oh_see hC hv (fun j hj e => ?_) (by omega) hm ?_
  · obtain ⟨m, em⟩ : ∃ m, nx = m + 1 := ⟨nx - 1, by omega⟩
    rw [em]
    exact oh_P_e (hC.2.1 ob m hlt (by omega)) hlt ht hj e
  · intro c' s' d' hN
    obtain ⟨sg', dl', hC', hcc, hsg, hdl, hnew, hx⟩ := hN
    have hob : dl' ob = nx := by
      rw [hdl ob (by omega)]
      exact en
    refine ⟨sg', dl', hC', by omega, fun j hj h1 => ?_, fun k q j hk hq hj e => ?_, ?_, hob, fun k hk => ?_, fun q j hq hj e => ?_⟩
    · have := hs j hj h1
      rw [hdl j (by omega)]
      exact this
    · have h3 := hC.2.2.1 k (by omega)
      rw [hsg k (by omega)] at e
      have h4 := hG k q j hk hq hj e
      rw [hsg k (by omega), hdl j h4.1, hdl (sg k) (by omega)]
      exact h4
    · rw [hsg i hi]
      exact eo
    · by_cases hk2 : k < c
      · have h3 := hC.2.2.1 k hk2
        rw [hsg k hk2, hdl (sg k) (by omega)]
        exact hm k hk2
      · rw [hnew k (by omega) hk]
        exact Nat.le_refl _
    · by_cases hq2 : q < t
      · have h4 := hf q j hq2 hj e
        rw [hdl j h4.1]
        exact h4
      · have e2 : q = t := by omega
        rw [e2] at e
        exact hx j hj e
/-- a whole walk of the class -/
def oh_Xd (P : Nat → Nat → Prop) (c : Nat) (s d : Nat → Int32) : Prop :=
  ∃ sg dl : Nat → Nat, oh_C P c s d sg dl ∧ ∀ n j, P n j → dl j ≠ 0 ∧ dl j ≤ n + 1
theorem oh_OI_Xd {src : Nat → Prop} {f : Nat → Int32} {c : Nat} {s d : Nat → Int32} (h : oh_OI src f c c s d) : oh_Xd (oh_P src f) c s d := by
  obtain ⟨sg, dl, hC, _, hs, hG, _⟩ := h
  refine ⟨sg, dl, hC, fun n => ?_⟩
  induction n with
  | zero =>
    intro j hj
    have := hs j hj.1 hj.2
    omega
  | succ n ih =>
    intro j hj
    obtain ⟨hj24, i, t, hi, ht, hp, e⟩ := hj
    have h1 := ih i hp
    obtain ⟨k, hk, ek⟩ := hC.2.2.2.1 i hi h1.1
    have h2 := hG k t j hk ht hj24 (by rw [ek]; exact e)
    rw [ek] at h2
    omega
end
