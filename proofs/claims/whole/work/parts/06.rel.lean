section
/-! the relation, and what a call does to it -/
def ca_R (K P M C F L U : Nat → Nat) (nx ic : Nat) (p m c : Nat → Int32) : Prop :=
  ca_T K P M nx ∧ ca_B C F L U ∧ (ic = ca_cn (ca_pr K) 62 ∧ ic ≤ 24) ∧ (∀ i, K i ≠ 1 → C i = 0) ∧
  (∀ i, 2 ≤ i → K i ≠ 0 → p i = nI (P i) ∧ m i = nI (M i) ∧ c i = nI (C i))
theorem ca_cn0 : ca_cn (ca_pr (ca_up (fun _ => 0) 1 2)) 62 = 0 := by
  have : ∀ n, ca_cn (ca_pr (ca_up (fun _ => 0) 1 2)) n = 0 := by
    intro n
    induction n with
    | zero => rfl
    | succ n ih =>
      rw [ca_cn_f (p := ca_pr (ca_up (fun _ => 0) 1 2)) (n := n) (ca_pr_f.mpr (fun z => z.2 (ca_upn (by omega)))), ih]
  exact this 62
theorem ca_R0 {p m c : Nat → Int32} : ca_R (ca_up (fun _ => 0) 1 2) (fun _ => 0) (fun _ => 0) (fun _ => 0) (fun _ => 0) (fun _ => 0) (fun _ => 0) 2 0 p m c :=
  ⟨ca_T0, ca_B0, ⟨ca_cn0.symm, by omega⟩, fun _ _ => rfl, fun i hi h => (h (ca_upn (by omega))).elim⟩
section
variable {K P M C F L U : Nat → Nat} {nx ic : Nat} {p m c : Nat → Int32}
theorem ca_R_make (R : ca_R K P M C F L U nx ic p m c) {f n kd : Nat} (hf : K f = 2) (hn : n ≤ 255) (hx : nx ≤ 61) (hi : ic < 24) (hk : kd = 1 ∨ kd = 2)
    (hu : ∀ i, ca_ch K P f i → M i ≠ n) :
    ca_R (ca_up K nx kd) (ca_up P nx f) (ca_up M nx n) C F L U (nx + 1) (ic + 1) (upd p nx (nI f)) (upd m nx (nI n)) (upd c nx (nI 0)) := by
  obtain ⟨T, B, ⟨h1, h2⟩, h3, h4⟩ := R
  have tn := T.2.1
  have tz := T.2.2.1
  have z : K nx = 0 := tz nx (by omega)
  have b62 : ∀ i, K i ≠ 0 → i < 62 := fun i hi => by
    by_cases e : i < 62
    · exact e
    · exact (hi (tz i (by omega))).elim
  refine ⟨ca_T_make T hf hn hx hk (fun i a b d => hu i ⟨a, b62 i b, b, d⟩), B, ⟨?_, by omega⟩, ?_, ?_⟩
  · rw [ca_ic_mk (by omega) (by omega) z (by omega), h1]
  · intro i hi
    by_cases e : i = nx
    · rw [e]; exact h3 nx (by omega)
    · rw [ca_upn e] at hi; exact h3 i hi
  · intro i hi hki
    by_cases e : i = nx
    · rw [e, pk_us, pk_us, pk_us, ca_ups, ca_ups, h3 nx (by omega)]
      exact ⟨rfl, rfl, rfl⟩
    · rw [ca_upn e] at hki
      rw [pk_un e, pk_un e, pk_un e, ca_upn e, ca_upn e]
      exact h4 i hi hki
theorem ca_R_move (R : ca_R K P M C F L U nx ic p m c) {i f n : Nat} (hi : 2 ≤ i) (hki : K i ≠ 0) (hf : K f = 2) (hn : n ≤ 255) (hw : ca_wn P i 62 f = false)
    (hu : ∀ j, ca_ch K P f j → j ≠ i → M j ≠ n) :
    ca_R K (ca_up P i f) (ca_up M i n) C F L U nx ic (upd p i (nI f)) (upd m i (nI n)) c := by
  obtain ⟨T, B, h12, h3, h4⟩ := R
  have tn := T.2.1
  have tz := T.2.2.1
  have b62 : ∀ i, K i ≠ 0 → i < 62 := fun i hi => by
    by_cases e : i < 62
    · exact e
    · exact (hi (tz i (by omega))).elim
  refine ⟨ca_T_move T hi hki hf hn ?_ (fun j a b e d => hu j ⟨a, b62 j b, b, d⟩ e), B, h12, h3, ?_⟩
  · rw [← ca_wn_iff T hi (by omega), hw]; decide
  · intro j hj hkj
    by_cases e : j = i
    · rw [e, pk_us, pk_us, ca_ups, ca_ups]
      exact ⟨rfl, rfl, (h4 i hi hki).2.2⟩
    · rw [pk_un e, pk_un e, ca_upn e, ca_upn e]
      exact h4 j hj hkj
theorem ca_R_ext (R : ca_R K P M C F L U nx ic p m c) {i a l : Nat} (hi : 2 ≤ i) (hki : K i = 1) (h6 : C i < 6) (l1 : 1 ≤ l) (l2 : l ≤ 32) (w : ca_ff U l a) :
    ca_R K P M (ca_up C i (C i + 1)) (ca_up F (i * 6 + C i) a) (ca_up L (i * 6 + C i) l) (ca_rg U a l 1) nx ic p m (upd c i (nI (C i + 1))) := by
  obtain ⟨T, B, h12, h3, h4⟩ := R
  refine ⟨T, ca_B_ad B rfl h6 l1 l2 w.1 w.2, h12, ?_, ?_⟩
  · intro j hj
    by_cases e : j = i
    · rw [e] at hj; exact (hj hki).elim
    · rw [ca_upn e]; exact h3 j hj
  · intro j hj hkj
    have := h4 j hj hkj
    by_cases e : j = i
    · rw [e] at this ⊢
      rw [pk_us, ca_ups]
      exact ⟨this.1, this.2.1, rfl⟩
    · rw [pk_un e, ca_upn e]; exact this
theorem ca_R_shr (R : ca_R K P M C F L U nx ic p m c) {i q : Nat} (hi : 2 ≤ i) (hki : K i = 1) (hc : C i = q + 1) :
    ca_R K P M (ca_up C i q) F L (ca_rg U (F (i * 6 + q)) (L (i * 6 + q)) 0) nx ic p m (upd c i (nI q)) := by
  obtain ⟨T, B, h12, h3, h4⟩ := R
  refine ⟨T, ca_B_dn B hc, h12, ?_, ?_⟩
  · intro j hj
    by_cases e : j = i
    · rw [e] at hj; exact (hj hki).elim
    · rw [ca_upn e]; exact h3 j hj
  · intro j hj hkj
    have := h4 j hj hkj
    by_cases e : j = i
    · rw [e] at this ⊢
      rw [pk_us, ca_ups]
      exact ⟨this.1, this.2.1, rfl⟩
    · rw [pk_un e, ca_upn e]; exact this
theorem ca_R_rm (R : ca_R K P M C F L U nx ic p m c) {i : Nat} {V : Nat → Nat} (hi : 2 ≤ i) (hki : K i ≠ 0) (hc : ca_cn (ca_nc K P i) 62 = 0) (B : ca_B (ca_up C i 0) F L V) :
    1 ≤ ic ∧ ca_R (ca_up K i 0) (ca_up P i 0) (ca_up M i 0) (ca_up C i 0) F L V nx (ic - 1) p m c := by
  obtain ⟨T, _, ⟨h1, h2⟩, h3, h4⟩ := R
  have tn := T.2.1
  have tz := T.2.2.1
  have b62 : ∀ i, K i ≠ 0 → i < 62 := fun i hi => by
    by_cases e : i < 62
    · exact e
    · exact (hi (tz i (by omega))).elim
  have e1 := ca_ic_rm hi (b62 i hki) hki
  refine ⟨by omega, ca_alone T hi (fun j a b => ca_nc_0 hc j (b62 j b) a b), B, ⟨by omega, by omega⟩, ?_, ?_⟩
  · intro j hj
    by_cases e : j = i
    · rw [e, ca_ups]
    · rw [ca_upn e] at hj ⊢; exact h3 j hj
  · intro j hj hkj
    by_cases e : j = i
    · rw [e, ca_ups] at hkj; exact (hkj rfl).elim
    · rw [ca_upn e] at hkj
      rw [ca_upn e, ca_upn e, ca_upn e]
      exact h4 j hj hkj
/-- a set taken away up to t -/
def ca_dt (D : Nat → Bool) (t j : Nat) : Bool := D j && decide (j < t)
theorem ca_dt_f {D : Nat → Bool} {t : Nat} (h : D t = false) (f : Nat → Nat) : ca_cut (ca_dt D (t + 1)) f = ca_cut (ca_dt D t) f := by
  funext j
  unfold ca_cut
  have : ca_dt D (t + 1) j = ca_dt D t j := by
    unfold ca_dt
    by_cases e : j = t
    · rw [e, h]; rfl
    · have : (j < t + 1) ↔ (j < t) := by omega
      simp [this]
  rw [this]
theorem ca_dt_t {D : Nat → Bool} {t : Nat} (h : D t = true) (f : Nat → Nat) : ca_cut (ca_dt D (t + 1)) f = ca_up (ca_cut (ca_dt D t) f) t 0 := by
  funext j
  unfold ca_cut ca_up
  by_cases e : j = t
  · rw [if_pos e]
    have : ca_dt D (t + 1) j = true := by unfold ca_dt; rw [e, h]; simp
    rw [this]; rfl
  · rw [if_neg e]
    have : ca_dt D (t + 1) j = ca_dt D t j := by
      unfold ca_dt
      have : (j < t + 1) ↔ (j < t) := by omega
      simp [this]
    rw [this]
theorem ca_dt_2 {D : Nat → Bool} (d0 : D 0 = false) (d1 : D 1 = false) (f : Nat → Nat) : ca_cut (ca_dt D 2) f = f := by
  funext j
  refine ca_cut_f ?_
  unfold ca_dt
  by_cases e : j < 2
  · by_cases e2 : j = 0
    · rw [e2, d0]; rfl
    · rw [show j = 1 by omega, d1]; rfl
  · simp [e]
theorem ca_dt_62 {D : Nat → Bool} (h : ∀ j, D j = true → j < 62) (f : Nat → Nat) : ca_cut (ca_dt D 62) f = ca_cut D f := by
  funext j
  unfold ca_cut
  have : ca_dt D 62 j = D j := by
    unfold ca_dt
    cases e : D j with
    | false => rfl
    | true => simp [h j e]
  rw [this]
theorem ca_R_all (R : ca_R K P M C F L U nx ic p m c) {i jc : Nat} {V : Nat → Nat} {D : Nat → Bool} (hi : 2 ≤ i)
    (hD : ∀ j, D j = true ↔ (2 ≤ j ∧ j < 62 ∧ K j ≠ 0 ∧ ca_wn P i 62 j = true)) (B : ca_B (ca_cut D C) F L V) (hj : jc = ca_cn (ca_pr (ca_cut D K)) 62) :
    ca_R (ca_cut D K) (ca_cut D P) (ca_cut D M) (ca_cut D C) F L V nx jc p m c := by
  obtain ⟨T, _, ⟨h1, h2⟩, h3, h4⟩ := R
  obtain ⟨d0, d1, dc⟩ := ca_below T hi hD
  refine ⟨ca_T_cut T d0 d1 dc, B, ⟨hj, ?_⟩, ?_, ?_⟩
  · have : ca_cn (ca_pr (ca_cut D K)) 62 ≤ ca_cn (ca_pr K) 62 := by
      refine ca_cn_mono 62 (fun j _ h => ?_)
      rw [ca_pr_t] at h ⊢
      exact ⟨h.1, (ca_cut_n h.2).2⟩
    omega
  · intro j hj
    cases e : D j with
    | true => exact ca_cut_t e
    | false => rw [ca_cut_f e] at hj ⊢; exact h3 j hj
  · intro j hj hkj
    obtain ⟨e, hk⟩ := ca_cut_n hkj
    rw [ca_cut_f e, ca_cut_f e, ca_cut_f e]
    exact h4 j hj hk
end
/-! arguments -/
def ca_ms (K : Nat → Nat) (v : Int32) : Prop := v < 1 ∨ 61 < v ∨ ∃ i, 1 ≤ i ∧ i < 62 ∧ v = nI i ∧ K i = 0
theorem ca_arg (K : Nat → Nat) (v : Int32) : (∃ i, 1 ≤ i ∧ i < 62 ∧ v = nI i ∧ K i ≠ 0) ∨ ca_ms K v := by
  by_cases h1 : v < 1
  · exact Or.inr (Or.inl h1)
  · by_cases h2 : v ≤ 61
    · have h0 : ¬ v < 0 := by
        intro z
        rw [Int32.lt_iff_toInt_lt] at h1 z
        rw [show (1 : Int32).toInt = 1 by decide] at h1
        rw [show (0 : Int32).toInt = 0 by decide] at z
        omega
      obtain ⟨j, hj, rfl⟩ := nI_of h0
      have a1 : ¬ j < 1 := fun z => h1 (nI_lt (b := 1) z (by decide))
      have a2 : j ≤ 61 := (nI_leI hj (b := 61) (by decide)).mp h2
      by_cases h3 : K j = 0
      · exact Or.inr (Or.inr (Or.inr ⟨j, by omega, by omega, rfl, h3⟩))
      · exact Or.inl ⟨j, by omega, by omega, rfl, h3⟩
    · exact Or.inr (Or.inr (Or.inl (Int32.not_le.mp h2)))
/-- a name or not -/
theorem ca_nam (v : Int32) : (∃ n, n ≤ 255 ∧ v = nI n) ∨ v < 0 ∨ (¬ v < 0 ∧ ¬ v ≤ 255) := by
  by_cases h1 : v < 0
  · exact Or.inr (Or.inl h1)
  · by_cases h2 : v ≤ 255
    · obtain ⟨j, hj, rfl⟩ := nI_of h1
      have a2 : j ≤ 255 := (nI_leI hj (b := 255) (by decide)).mp h2
      exact Or.inl ⟨j, a2, rfl⟩
    · exact Or.inr (Or.inr ⟨h1, h2⟩)
theorem ca_len (v : Int32) : (∃ n, 1 ≤ n ∧ n ≤ 32 ∧ v = nI n) ∨ v < 1 ∨ (¬ v < 1 ∧ ¬ v ≤ 32) := by
  by_cases h1 : v < 1
  · exact Or.inr (Or.inl h1)
  · by_cases h2 : v ≤ 32
    · have h0 : ¬ v < 0 := by
        intro z
        rw [Int32.lt_iff_toInt_lt] at h1 z
        rw [show (1 : Int32).toInt = 1 by decide] at h1
        rw [show (0 : Int32).toInt = 0 by decide] at z
        omega
      obtain ⟨j, hj, rfl⟩ := nI_of h0
      have a1 : ¬ j < 1 := fun z => h1 (nI_lt (b := 1) z (by decide))
      have a2 : j ≤ 32 := (nI_leI hj (b := 32) (by decide)).mp h2
      exact Or.inl ⟨j, by omega, a2, rfl⟩
    · exact Or.inr (Or.inr ⟨h1, h2⟩)
end
