section
/-! children -/
def ca_ch (K P : Nat → Nat) (f i : Nat) : Prop := 2 ≤ i ∧ i < 62 ∧ K i ≠ 0 ∧ P i = f
/-- what a look for a name answers -/
def ca_lk (K P M : Nat → Nat) (f n r : Nat) : Prop := (r = 0 ∧ ∀ i, ca_ch K P f i → M i ≠ n) ∨ (ca_ch K P f r ∧ M r = n)
theorem ca_lk_u {K P M : Nat → Nat} {nx f n r s : Nat} (T : ca_T K P M nx) (h1 : ca_lk K P M f n r) (h2 : ca_lk K P M f n s) : r = s := by
  obtain ⟨_, _, _, _, _, tu, _⟩ := T
  cases h1 with
  | inl h1 =>
    cases h2 with
    | inl h2 => rw [h1.1, h2.1]
    | inr h2 => exact (h1.2 s h2.1 h2.2).elim
  | inr h1 =>
    cases h2 with
    | inl h2 => exact (h2.2 r h1.1 h1.2).elim
    | inr h2 =>
      obtain ⟨⟨a1, a2, a3, a4⟩, a5⟩ := h1
      obtain ⟨⟨b1, b2, b3, b4⟩, b5⟩ := h2
      exact tu r s a1 b1 a3 b3 (by omega) (by omega)
theorem ca_lk_e (K P M : Nat → Nat) (f n : Nat) : ∃ r, ca_lk K P M f n r := by
  by_cases h : ∃ i, ca_ch K P f i ∧ M i = n
  · obtain ⟨i, h1, h2⟩ := h
    exact ⟨i, Or.inr ⟨h1, h2⟩⟩
  · exact ⟨0, Or.inl ⟨rfl, fun i h1 h2 => h ⟨i, h1, h2⟩⟩⟩
theorem ca_lk_b {K P M : Nat → Nat} {f n r : Nat} (h : ca_lk K P M f n r) : r = 0 ∨ (2 ≤ r ∧ r < 62) := by
  cases h with
  | inl h => exact Or.inl h.1
  | inr h => exact Or.inr ⟨h.1.1, h.1.2.1⟩
/-- the children named below n -/
def ca_cb (K P M : Nat → Nat) (f n i : Nat) : Bool := decide (2 ≤ i) && decide (K i ≠ 0) && decide (P i = f) && decide (M i < n)
theorem ca_cb_t {K P M : Nat → Nat} {f n i : Nat} : ca_cb K P M f n i = true ↔ 2 ≤ i ∧ K i ≠ 0 ∧ P i = f ∧ M i < n := by
  simp [ca_cb, and_assoc]
theorem ca_cb_f {K P M : Nat → Nat} {f n i : Nat} : ca_cb K P M f n i = false ↔ ¬ (2 ≤ i ∧ K i ≠ 0 ∧ P i = f ∧ M i < n) := by
  rw [← ca_cb_t]
  cases ca_cb K P M f n i <;> simp
def ca_rk (K P M : Nat → Nat) (f n : Nat) : Nat := ca_cn (ca_cb K P M f n) 62
theorem ca_bl {a b : Bool} (h : a = true ↔ b = true) : a = b := by
  cases a <;> cases b <;> simp at h ⊢
theorem ca_rk_0 (K P M : Nat → Nat) (f : Nat) : ca_rk K P M f 0 = 0 := by
  have : ∀ n, ca_cn (ca_cb K P M f 0) n = 0 := by
    intro n
    induction n with
    | zero => rfl
    | succ n ih => rw [ca_cn_f (p := ca_cb K P M f 0) (n := n) (ca_cb_f.mpr (by omega)), ih]
  exact this 62
theorem ca_rk_n {K P M : Nat → Nat} {f n : Nat} (h : ca_lk K P M f n 0) : ca_rk K P M f (n + 1) = ca_rk K P M f n := by
  unfold ca_rk
  refine ca_cn_same 62 (fun i hi => ca_bl ?_)
  rw [ca_cb_t, ca_cb_t]
  cases h with
  | inr h => have := h.1.1; omega
  | inl h =>
    constructor
    · intro ⟨a, b, c, d⟩
      have := h.2 i ⟨a, hi, b, c⟩
      exact ⟨a, b, c, by omega⟩
    · intro ⟨a, b, c, d⟩
      exact ⟨a, b, c, by omega⟩
theorem ca_rk_s {K P M : Nat → Nat} {nx f n r : Nat} (T : ca_T K P M nx) (hr : r ≠ 0) (h : ca_lk K P M f n r) : ca_rk K P M f (n + 1) = ca_rk K P M f n + 1 := by
  obtain ⟨_, _, _, _, _, tu, _⟩ := T
  cases h with
  | inl h => exact (hr h.1).elim
  | inr h =>
    obtain ⟨⟨a1, a2, a3, a4⟩, a5⟩ := h
    unfold ca_rk
    refine ca_cn_add (k := r) 62 a2 (ca_cb_f.mpr (by omega)) (ca_cb_t.mpr ⟨a1, a3, a4, by omega⟩) (fun i hi hir => ca_bl ?_)
    rw [ca_cb_t, ca_cb_t]
    constructor
    · intro ⟨a, b, c, d⟩
      exact ⟨a, b, c, by omega⟩
    · intro ⟨a, b, c, d⟩
      refine ⟨a, b, c, ?_⟩
      by_cases e : M i = n
      · exact (hir (tu i r a a1 b a3 (by omega) (by omega))).elim
      · omega
theorem ca_rk_lt {K P M : Nat → Nat} {f n m r : Nat} (h : ca_ch K P f r) (hn : M r = n) (hm : n < m) : ca_rk K P M f n < ca_rk K P M f m := by
  obtain ⟨a1, a2, a3, a4⟩ := h
  unfold ca_rk
  refine ca_cn_lt (k := r) 62 a2 (ca_cb_f.mpr (by omega)) (ca_cb_t.mpr ⟨a1, a3, a4, by omega⟩) (fun i hi => ?_)
  rw [ca_cb_t, ca_cb_t]
  intro ⟨a, b, c, d⟩
  exact ⟨a, b, c, by omega⟩
theorem ca_rk_b (K P M : Nat → Nat) (f n : Nat) : ca_rk K P M f n ≤ 62 := ca_cn_le 62
/-- the number of children -/
def ca_nc (K P : Nat → Nat) (f i : Nat) : Bool := decide (2 ≤ i) && decide (K i ≠ 0) && decide (P i = f)
theorem ca_nc_t {K P : Nat → Nat} {f i : Nat} : ca_nc K P f i = true ↔ 2 ≤ i ∧ K i ≠ 0 ∧ P i = f := by
  simp [ca_nc, and_assoc]
theorem ca_nc_f {K P : Nat → Nat} {f i : Nat} : ca_nc K P f i = false ↔ ¬ (2 ≤ i ∧ K i ≠ 0 ∧ P i = f) := by
  rw [← ca_nc_t]
  cases ca_nc K P f i <;> simp
theorem ca_rk_all {K P M : Nat → Nat} {nx f : Nat} (T : ca_T K P M nx) : ca_rk K P M f 256 = ca_cn (ca_nc K P f) 62 := by
  obtain ⟨_, _, _, tb, _, _, _⟩ := T
  unfold ca_rk
  refine ca_cn_same 62 (fun i hi => ca_bl ?_)
  have := tb i
  rw [ca_cb_t, ca_nc_t]
  constructor
  · intro ⟨a, b, c, d⟩; exact ⟨a, b, c⟩
  · intro ⟨a, b, c⟩; exact ⟨a, b, c, by omega⟩
theorem ca_nc_0 {K P : Nat → Nat} {f : Nat} (h : ca_cn (ca_nc K P f) 62 = 0) : ∀ i, i < 62 → 2 ≤ i → K i ≠ 0 → P i ≠ f := by
  intro i hi h2 hk hp
  have := ca_cn_lt (p := fun _ => false) (q := ca_nc K P f) (k := i) 62 hi rfl (ca_nc_t.mpr ⟨h2, hk, hp⟩) (fun j _ h => absurd h (by decide))
  omega
/-- a file has none -/
theorem ca_nc_1 {K P M : Nat → Nat} {nx f : Nat} (T : ca_T K P M nx) (hf : K f ≠ 2) : ca_cn (ca_nc K P f) 62 = 0 := by
  obtain ⟨_, _, _, _, tp, _, _⟩ := T
  have : ∀ n, ca_cn (ca_nc K P f) n = 0 := by
    intro n
    induction n with
    | zero => rfl
    | succ n ih =>
      rw [ca_cn_f (p := ca_nc K P f) (n := n) (ca_nc_f.mpr ?_), ih]
      intro ⟨a, b, c⟩
      have := tp n a b
      rw [c] at this
      exact hf this
  exact this 62
/-- counting the items -/
theorem ca_ic_mk {K : Nat → Nat} {k v : Nat} (hk : 2 ≤ k) (h62 : k < 62) (h0 : K k = 0) (hv : v ≠ 0) : ca_cn (ca_pr (ca_up K k v)) 62 = ca_cn (ca_pr K) 62 + 1 := by
  refine ca_cn_add (k := k) 62 h62 (ca_pr_f.mpr (by omega)) (ca_pr_t.mpr ⟨hk, by rw [ca_ups]; exact hv⟩) (fun i _ hik => ca_bl ?_)
  rw [ca_pr_t, ca_pr_t, ca_upn hik]
theorem ca_ic_rm {K : Nat → Nat} {k : Nat} (hk : 2 ≤ k) (h62 : k < 62) (h0 : K k ≠ 0) : ca_cn (ca_pr K) 62 = ca_cn (ca_pr (ca_up K k 0)) 62 + 1 := by
  refine ca_cn_add (k := k) 62 h62 (ca_pr_f.mpr (fun z => z.2 ca_ups)) (ca_pr_t.mpr ⟨hk, h0⟩) (fun i _ hik => ca_bl ?_)
  rw [ca_pr_t, ca_pr_t, ca_upn hik]
end
