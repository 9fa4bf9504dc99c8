section
/-! the tree: kinds, parents, names -/
def ca_T (K P M : Nat → Nat) (nx : Nat) : Prop :=
  (K 0 = 0 ∧ K 1 = 2 ∧ P 0 = 0 ∧ P 1 = 0) ∧ (2 ≤ nx ∧ nx ≤ 62) ∧ (∀ i, nx ≤ i → K i = 0) ∧ (∀ i, K i ≤ 2 ∧ P i < 62 ∧ M i ≤ 255) ∧
  (∀ i, 2 ≤ i → K i ≠ 0 → K (P i) = 2) ∧ (∀ i j, 2 ≤ i → 2 ≤ j → K i ≠ 0 → K j ≠ 0 → P i = P j → M i = M j → i = j) ∧
  (∀ i, K i ≠ 0 → ∃ n, ca_it P n i = 1)
/-- the present ones, but the root -/
def ca_pr (K : Nat → Nat) (i : Nat) : Bool := decide (2 ≤ i) && decide (K i ≠ 0)
theorem ca_pr_t {K : Nat → Nat} {i : Nat} : ca_pr K i = true ↔ 2 ≤ i ∧ K i ≠ 0 := by
  simp [ca_pr]
theorem ca_pr_f {K : Nat → Nat} {i : Nat} : ca_pr K i = false ↔ ¬ (2 ≤ i ∧ K i ≠ 0) := by
  rw [← ca_pr_t]
  cases ca_pr K i <;> simp
theorem ca_prc {K P M : Nat → Nat} {nx x : Nat} (T : ca_T K P M nx) (hx : K x ≠ 0) : ∀ q : Nat, (∀ r, r < q → ca_it P r x ≠ 1) → K (ca_it P q x) ≠ 0 := by
  obtain ⟨⟨t0, t1, t2, t3⟩, _, _, _, tp, _, _⟩ := T
  intro q
  induction q with
  | zero => intro _; exact hx
  | succ q ih =>
    intro h
    have h1 := ih (fun r hr => h r (by omega))
    have h2 := h q (by omega)
    rw [ca_it_s]
    have h3 : ca_it P q x ≠ 0 := fun z => by rw [z] at h1; exact h1 t0
    have := tp (ca_it P q x) (by omega) h1
    omega
/-- a present one's way up: its length -/
theorem ca_way {K P M : Nat → Nat} {nx x : Nat} (T : ca_T K P M nx) (hx : K x ≠ 0) : ∃ n, n ≤ 60 ∧ ca_it P n x = 1 ∧ (∀ q, q < n → ca_it P q x ≠ 1) ∧ (∀ q, q ≤ n → K (ca_it P q x) ≠ 0) := by
  have T' := T
  obtain ⟨⟨t0, t1, t2, t3⟩, tn, tz, _, tp, _, tr⟩ := T
  obtain ⟨n, h1, h2⟩ := pk_least (fun n => ca_it P n x = 1) (tr x hx)
  have h3 : ∀ q, q ≤ n → K (ca_it P q x) ≠ 0 := fun q hq => ca_prc T' hx q (fun r hr => h2 r (by omega))
  refine ⟨n, ca_rb ?_ h1 h2, h1, h2, h3⟩
  intro q hq
  have h4 := h3 q hq
  have h5 : ca_it P q x ≠ 0 := fun z => by rw [z] at h4; exact h4 t0
  have h6 : ca_it P q x < 62 := by
    by_cases e : ca_it P q x < 62
    · exact e
    · exact (h4 (tz _ (by omega))).elim
  omega
/-- within, as both walk it -/
def ca_wn (P : Nat → Nat) (f : Nat) : Nat → Nat → Bool
  | 0, _ => false
  | n + 1, x => if x = f then true else if x = 1 then false else ca_wn P f n (P x)
theorem ca_wn_1 {P : Nat → Nat} {f : Nat} : ∀ (n x : Nat), ca_wn P f n x = true → ∃ m, ca_it P m x = f := by
  intro n
  induction n with
  | zero => intro x h; exact absurd h (by simp [ca_wn])
  | succ n ih =>
    intro x h
    simp only [ca_wn] at h
    split at h
    · next e => exact ⟨0, e⟩
    · split at h
      · exact absurd h (by decide)
      · obtain ⟨m, hm⟩ := ih _ h
        exact ⟨m + 1, hm⟩
theorem ca_wn_2 {P : Nat → Nat} {f : Nat} : ∀ (m n x : Nat), m < n → ca_it P m x = f → (∀ q, q < m → ca_it P q x ≠ 1) → ca_wn P f n x = true := by
  intro m
  induction m with
  | zero =>
    intro n x hn he _
    obtain ⟨k, rfl⟩ : ∃ k, n = k + 1 := ⟨n - 1, by omega⟩
    have e : x = f := he
    simp only [ca_wn, if_pos e]
  | succ m ih =>
    intro n x hn he hq
    obtain ⟨k, rfl⟩ : ∃ k, n = k + 1 := ⟨n - 1, by omega⟩
    have h1 : x ≠ 1 := hq 0 (by omega)
    simp only [ca_wn]
    split
    · rfl
    · exact ih k (P x) (by omega) he (fun q hq' => hq (q + 1) (by omega))
theorem ca_wn_iff {K P M : Nat → Nat} {nx x f : Nat} (T : ca_T K P M nx) (hf : 2 ≤ f) (hx : K x ≠ 0) : ca_wn P f 62 x = true ↔ ∃ m, ca_it P m x = f := by
  refine ⟨ca_wn_1 62 x, ?_⟩
  intro ⟨m, hm⟩
  obtain ⟨n, hn, h1, h2, h3⟩ := ca_way T hx
  obtain ⟨⟨t0, t1, t2, t3⟩, _⟩ := T
  have hmn : m ≤ n := by
    by_cases e : m ≤ n
    · exact e
    · obtain ⟨d, rfl⟩ : ∃ d, m = d + 1 + n := ⟨m - n - 1, by omega⟩
      rw [ca_it_a, h1, ca_it_0 t2 t3] at hm
      omega
  exact ca_wn_2 m 62 x (by omega) hm (fun q hq => h2 q (by omega))

/-! what a call does to the tree -/
theorem ca_T0 : ca_T (ca_up (fun _ => 0) 1 2) (fun _ => 0) (fun _ => 0) 2 := by
  refine ⟨⟨rfl, rfl, rfl, rfl⟩, by omega, ?_, ?_, ?_, ?_, ?_⟩
  · intro i hi; exact ca_upn (by omega)
  · intro i
    refine ⟨?_, (by decide : 0 < 62), (by decide : 0 ≤ 255)⟩
    by_cases e : i = 1
    · rw [e, ca_ups]; omega
    · rw [ca_upn e]; exact Nat.zero_le _
  · intro i hi h; exact (h (ca_upn (by omega))).elim
  · intro i j hi _ h; exact (h (ca_upn (by omega))).elim
  · intro i h
    by_cases e : i = 1
    · exact ⟨0, e⟩
    · exact (h (ca_upn e)).elim
theorem ca_T_make {K P M : Nat → Nat} {nx f n kd : Nat} (T : ca_T K P M nx) (hf : K f = 2) (hn : n ≤ 255) (hx : nx ≤ 61) (hk : kd = 1 ∨ kd = 2)
    (hu : ∀ i, 2 ≤ i → K i ≠ 0 → P i = f → M i ≠ n) : ca_T (ca_up K nx kd) (ca_up P nx f) (ca_up M nx n) (nx + 1) := by
  have T' := T
  obtain ⟨⟨t0, t1, t2, t3⟩, tn, tz, tb, tp, tu, tr⟩ := T
  have z : K nx = 0 := tz nx (by omega)
  have hfn : f ≠ nx := fun e => by rw [e] at hf; omega
  have hf62 : f < 62 := by
    by_cases e : f < 62
    · exact e
    · have := tz f (by omega); omega
  have pn : ∀ i, K i ≠ 0 → i ≠ nx := fun i hi e => hi (e ▸ z)
  have rch : ∀ i, K i ≠ 0 → ∃ m, ca_it (ca_up P nx f) m i = 1 := by
    intro i hi
    obtain ⟨m, _, h1, _, h3⟩ := ca_way T' hi
    refine ⟨m, ?_⟩
    rw [ca_it_c m i (fun q hq => ca_upn (pn _ (h3 q (by omega)))), h1]
  refine ⟨⟨?_, ?_, ?_, ?_⟩, by omega, ?_, ?_, ?_, ?_, ?_⟩
  · rw [ca_upn (by omega)]; exact t0
  · rw [ca_upn (by omega)]; exact t1
  · rw [ca_upn (by omega)]; exact t2
  · rw [ca_upn (by omega)]; exact t3
  · intro i hi; rw [ca_upn (by omega)]; exact tz i (by omega)
  · intro i
    have := tb i
    unfold ca_up
    split <;> omega
  · intro i hi h
    by_cases e : i = nx
    · rw [e, ca_ups, ca_upn hfn]; exact hf
    · rw [ca_upn e] at h
      have := tp i hi h
      rw [ca_upn e, ca_upn (pn _ (by omega))]; exact this
  · intro i j hi hj h1 h2 h3 h4
    by_cases e : i = nx
    · by_cases e' : j = nx
      · rw [e, e']
      · rw [e, ca_ups, ca_upn e'] at h3 h4
        rw [ca_upn e'] at h2
        exact (hu j hj h2 h3.symm h4.symm).elim
    · rw [ca_upn e] at h1 h3 h4
      by_cases e' : j = nx
      · rw [e', ca_ups] at h3 h4
        exact (hu i hi h1 h3 h4).elim
      · rw [ca_upn e'] at h2 h3 h4
        exact tu i j hi hj h1 h2 h3 h4
  · intro i h
    by_cases e : i = nx
    · obtain ⟨m, hm⟩ := rch f (by omega)
      refine ⟨m + 1, ?_⟩
      show ca_it (ca_up P nx f) m (ca_up P nx f i) = 1
      rw [e, ca_ups, hm]
    · rw [ca_upn e] at h
      exact rch i h
theorem ca_T_move {K P M : Nat → Nat} {nx i f n : Nat} (T : ca_T K P M nx) (hi : 2 ≤ i) (hki : K i ≠ 0) (hf : K f = 2) (hn : n ≤ 255) (hw : ¬ ∃ m, ca_it P m f = i)
    (hu : ∀ j, 2 ≤ j → K j ≠ 0 → j ≠ i → P j = f → M j ≠ n) : ca_T K (ca_up P i f) (ca_up M i n) nx := by
  have T' := T
  obtain ⟨⟨t0, t1, t2, t3⟩, tn, tz, tb, tp, tu, tr⟩ := T
  have hf62 : f < 62 := by
    by_cases e : f < 62
    · exact e
    · have := tz f (by omega); omega
  have keep : ∀ x m : Nat, (∀ q, q < m → ca_it P q x ≠ i) → ca_it (ca_up P i f) m x = ca_it P m x :=
    fun x m h => ca_it_c m x (fun q hq => ca_upn (h q hq))
  obtain ⟨mf, hmf⟩ := tr f (by omega)
  have rf : ca_it (ca_up P i f) mf f = 1 := by
    rw [keep f mf (fun q _ z => hw ⟨q, z⟩), hmf]
  refine ⟨⟨t0, t1, ?_, ?_⟩, tn, tz, ?_, ?_, ?_, ?_⟩
  · rw [ca_upn (by omega)]; exact t2
  · rw [ca_upn (by omega)]; exact t3
  · intro j
    have := tb j
    unfold ca_up
    split <;> omega
  · intro j hj h
    by_cases e : j = i
    · rw [e, ca_ups]; exact hf
    · rw [ca_upn e]; exact tp j hj h
  · intro j l hj hl h1 h2 h3 h4
    by_cases e : j = i
    · by_cases e' : l = i
      · rw [e, e']
      · rw [e, ca_ups, ca_upn e'] at h3 h4
        exact (hu l hl h2 e' h3.symm h4.symm).elim
    · rw [ca_upn e] at h3 h4
      by_cases e' : l = i
      · rw [e', ca_ups] at h3 h4
        exact (hu j hj h1 e h3 h4).elim
      · rw [ca_upn e'] at h3 h4
        exact tu j l hj hl h1 h2 h3 h4
  · intro x hx
    by_cases e : ∃ m, ca_it P m x = i
    · obtain ⟨m, h1, h2⟩ := pk_least (fun m => ca_it P m x = i) e
      refine ⟨mf + (1 + m), ?_⟩
      rw [ca_it_a, ca_it_a, keep x m h2, h1]
      show ca_it (ca_up P i f) mf (ca_up P i f i) = 1
      rw [ca_ups, rf]
    · obtain ⟨m, hm⟩ := tr x hx
      exact ⟨m, by rw [keep x m (fun q _ z => e ⟨q, z⟩), hm]⟩
/-- a set taken away -/
def ca_cut (D : Nat → Bool) (f : Nat → Nat) : Nat → Nat := fun j => if D j = true then 0 else f j
theorem ca_cut_t {D : Nat → Bool} {f : Nat → Nat} {j : Nat} (h : D j = true) : ca_cut D f j = 0 := if_pos h
theorem ca_cut_f {D : Nat → Bool} {f : Nat → Nat} {j : Nat} (h : D j = false) : ca_cut D f j = f j := by
  unfold ca_cut; rw [h]; rfl
theorem ca_cut_n {D : Nat → Bool} {f : Nat → Nat} {j : Nat} (h : ca_cut D f j ≠ 0) : D j = false ∧ f j ≠ 0 := by
  cases e : D j with
  | true => exact (h (ca_cut_t e)).elim
  | false => rw [ca_cut_f e] at h; exact ⟨rfl, h⟩
theorem ca_T_cut {K P M : Nat → Nat} {nx : Nat} {D : Nat → Bool} (T : ca_T K P M nx) (d0 : D 0 = false) (d1 : D 1 = false)
    (dc : ∀ j, 2 ≤ j → K j ≠ 0 → D j = false → D (P j) = false) : ca_T (ca_cut D K) (ca_cut D P) (ca_cut D M) nx := by
  have T' := T
  obtain ⟨⟨t0, t1, t2, t3⟩, tn, tz, tb, tp, tu, tr⟩ := T
  refine ⟨⟨?_, ?_, ?_, ?_⟩, tn, ?_, ?_, ?_, ?_, ?_⟩
  · rw [ca_cut_f d0]; exact t0
  · rw [ca_cut_f d1]; exact t1
  · rw [ca_cut_f d0]; exact t2
  · rw [ca_cut_f d1]; exact t3
  · intro i hi
    have := tz i hi
    unfold ca_cut; split <;> omega
  · intro i
    have := tb i
    unfold ca_cut; split <;> omega
  · intro i hi h
    obtain ⟨h1, h2⟩ := ca_cut_n h
    rw [ca_cut_f h1, ca_cut_f (dc i hi h2 h1)]
    exact tp i hi h2
  · intro i j hi hj h1 h2 h3 h4
    obtain ⟨a1, a2⟩ := ca_cut_n h1
    obtain ⟨b1, b2⟩ := ca_cut_n h2
    rw [ca_cut_f a1, ca_cut_f b1] at h3 h4
    exact tu i j hi hj a2 b2 h3 h4
  · intro i h
    obtain ⟨h1, h2⟩ := ca_cut_n h
    obtain ⟨n, _, w1, w2, w3⟩ := ca_way T' h2
    have dn : ∀ q, q ≤ n → D (ca_it P q i) = false := by
      intro q
      induction q with
      | zero => intro _; exact h1
      | succ q ih =>
        intro hq
        have a := ih (by omega)
        have b := w3 q (by omega)
        have c := w2 q (by omega)
        have d : ca_it P q i ≠ 0 := fun z => by rw [z] at b; exact b t0
        rw [ca_it_s]
        exact dc _ (by omega) b a
    exact ⟨n, by rw [ca_it_c n i (fun q hq => ca_cut_f (dn q (by omega))), w1]⟩
/-- all below one: closed -/
theorem ca_below {K P M : Nat → Nat} {nx f : Nat} (T : ca_T K P M nx) (hf : 2 ≤ f) {D : Nat → Bool} (hD : ∀ j, D j = true ↔ (2 ≤ j ∧ j < 62 ∧ K j ≠ 0 ∧ ca_wn P f 62 j = true)) :
    D 0 = false ∧ D 1 = false ∧ (∀ j, 2 ≤ j → K j ≠ 0 → D j = false → D (P j) = false) := by
  have T' := T
  obtain ⟨⟨t0, t1, t2, t3⟩, tn, tz, tb, tp, tu, tr⟩ := T
  have fl : ∀ j, ¬ (D j = true) → D j = false := fun j h => by
    cases e : D j with
    | true => exact (h e).elim
    | false => rfl
  refine ⟨fl 0 (fun h => ?_), fl 1 (fun h => ?_), ?_⟩
  · have := (hD 0).mp h; omega
  · have := (hD 1).mp h; omega
  · intro j hj hk hd
    refine fl _ (fun h => ?_)
    obtain ⟨h1, h2, h3, h4⟩ := (hD _).mp h
    obtain ⟨m, hm⟩ := (ca_wn_iff T' hf h3).mp h4
    have h5 : ca_wn P f 62 j = true := (ca_wn_iff T' hf hk).mpr ⟨m + 1, hm⟩
    have h6 : j < 62 := by
      by_cases e : j < 62
      · exact e
      · exact (hk (tz j (by omega))).elim
    rw [(hD j).mpr ⟨hj, h6, hk, h5⟩] at hd
    exact absurd hd (by decide)
/-- without children, one alone is closed -/
theorem ca_alone {K P M : Nat → Nat} {nx i : Nat} (T : ca_T K P M nx) (hi : 2 ≤ i) (hc : ∀ j, 2 ≤ j → K j ≠ 0 → P j ≠ i) :
    ca_T (ca_up K i 0) (ca_up P i 0) (ca_up M i 0) nx := by
  have e : ∀ f : Nat → Nat, ca_up f i 0 = ca_cut (fun j => decide (j = i)) f := by
    intro f
    funext j
    unfold ca_up ca_cut
    by_cases h : j = i
    · simp [h]
    · simp [h]
  rw [e, e, e]
  refine ca_T_cut T (by simp; omega) (by simp; omega) (fun j hj hk _ => ?_)
  have := hc j hj hk
  simp [this]
end
