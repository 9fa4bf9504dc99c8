section
section
/-! rows pasted from kit/rows/PURE-ROWS -/
theorem pk_us {f : Nat → Int32} {k : Nat} {x : Int32} : upd f k x k = x := if_pos rfl
theorem pk_un {f : Nat → Int32} {k j : Nat} {x : Int32} (h : j ≠ k) : upd f k x j = f j := if_neg h
theorem pk_sub {a b : Nat} (h : b ≤ a) : nI a - nI b = nI (a - b) := by
  obtain ⟨c, rfl⟩ : ∃ c, a = c + b := ⟨a - b, by omega⟩
  rw [← nI_add, Int32.add_sub_cancel, Nat.add_sub_cancel]
theorem pk_m1 (n : Nat) : nI (n + 1) + (-1) = nI n := by
  rw [← nI_1, Int32.add_assoc, show (1 : Int32) + (-1) = 0 from rfl, Int32.add_zero]
theorem pk_mul (a b : Nat) : nI a * nI b = nI (a * b) := (Int32.ofNat_mul a b).symm
theorem pk_div {a d : Nat} (ha : a < 2 ^ 31) (h0 : 0 < d) (hd : d < 2 ^ 31) : nI a / nI d = nI (a / d) := by
  apply Int32.toInt_inj.mp
  rw [lg_idiv_nonneg (by rw [nI_toInt ha]; omega) (by rw [nI_toInt hd]; omega), nI_toInt ha, nI_toInt hd, nI_toInt (Nat.lt_of_le_of_lt (Nat.div_le_self a d) ha)]
  first | rfl | exact (Int.natCast_ediv _ _).symm
theorem pk_rem {a d : Nat} (ha : a < 2 ^ 31) (h0 : 0 < d) (hd : d < 2 ^ 31) : nI a - nI a / nI d * nI d = nI (a % d) := by
  rw [pk_div ha h0 hd, pk_mul, pk_sub (Nat.div_mul_le_self a d)]
  exact congrArg nI (by have := Nat.div_add_mod' a d; omega)
theorem pk_sub_toInt {a b : Nat} (ha : a < 2 ^ 30) (hb : b < 2 ^ 30) : (nI a - nI b).toInt = (a : Int) - b := by
  rw [Int32.toInt_sub, nI_toInt (by omega), nI_toInt (by omega)]
  exact Int.bmod_eq_of_le (by omega) (by omega)
theorem pk_ix (x : Int32) {n : Nat} (hn : n < 2 ^ 31) : x < 0 ∨ nI n ≤ x ∨ ∃ j : Nat, j < n ∧ x = nI j := by
  by_cases h : x < 0
  · exact Or.inl h
  · obtain ⟨j, hj, rfl⟩ := nI_of h
    by_cases h2 : j < n
    · exact Or.inr (Or.inr ⟨j, h2, rfl⟩)
    · exact Or.inr (Or.inl (nI_le (by omega) hj))
theorem pk_le {x y : Int32} {A B : Prop} (a b : Nat) (f : a ≤ b → A) (g : b < a → B) (hx : x = nI a := by rfl) (hy : y = nI b := by rfl) (ha : a < 2 ^ 31 := by omega) (hb : b < 2 ^ 31 := by omega) : (x ≤ y → A) ∧ (¬ x ≤ y → B) := by
  subst hx hy
  rw [nI_leI ha hb]
  exact ⟨f, fun z => g (by omega)⟩
theorem pk_lt {x y : Int32} {A B : Prop} (a b : Nat) (f : a < b → A) (g : b ≤ a → B) (hx : x = nI a := by rfl) (hy : y = nI b := by rfl) (ha : a < 2 ^ 31 := by omega) (hb : b < 2 ^ 31 := by omega) : (x < y → A) ∧ (¬ x < y → B) := by
  subst hx hy
  rw [nI_ltI ha hb]
  exact ⟨f, fun z => g (by omega)⟩
theorem pk_eq {x y : Int32} {A B : Prop} (a b : Nat) (f : a = b → A) (g : a ≠ b → B) (hx : x = nI a := by rfl) (hy : y = nI b := by rfl) (ha : a < 2 ^ 31 := by omega) (hb : b < 2 ^ 31 := by omega) : (x = y → A) ∧ (¬ x = y → B) := by
  subst hx hy
  rw [nI_eq ha hb]
  exact ⟨f, g⟩
theorem pk_in {x : Int32} (n N : Nat) (h : n < N) (hx : x = nI n := by rfl) (hN : N < 2 ^ 31 := by omega) : vp_in x N := by
  subst hx
  exact vp_in_nI h hN
theorem pk_cl {x : Int32} (n : Nat) (hx : x = nI n := by rfl) (h : n < 2 ^ 31 := by omega) : x.toNatClampNeg = n := by
  subst hx
  exact nI_clamp h
theorem pk_loop {σ : Type} (W : Nat → Nat → σ → Prop) (I : Nat → σ → Prop) (e i0 : Nat) (s : σ) (hi : i0 ≤ e) (h0 : I i0 s) (hx : ∀ n s, I e s → W (n + 1) e s)
    (hs : ∀ n i s, i < e → I i s → (∀ s', I (i + 1) s' → W n (i + 1) s') → W (n + 1) i s) : ∃ n, W n i0 s :=
  ⟨e + 1, loop_i W I e hx hs (e + 1) i0 s hi (by omega) h0⟩
theorem pk_least (P : Nat → Prop) (h : ∃ k, P k) : ∃ k, P k ∧ ∀ j, j < k → ¬ P j := by
  obtain ⟨k, hk⟩ := h
  induction k using Nat.strongRecOn with
  | ind k ih =>
    by_cases e : ∃ j, j < k ∧ P j
    · obtain ⟨j, hj, pj⟩ := e
      exact ih j hj pj
    · exact ⟨k, hk, fun j hj pj => e ⟨j, hj, pj⟩⟩
end
end
section
section
/-! numbers, encoded arrays -/
def ca_up (f : Nat → Nat) (k v : Nat) : Nat → Nat := fun j => if j = k then v else f j
def ca_en (f : Nat → Nat) : Nat → Int32 := fun i => nI (f i)
theorem ca_ups {f : Nat → Nat} {k v : Nat} : ca_up f k v k = v := if_pos rfl
theorem ca_upn {f : Nat → Nat} {k v j : Nat} (h : j ≠ k) : ca_up f k v j = f j := if_neg h
theorem ca_upe (f : Nat → Nat) (k v : Nat) : upd (ca_en f) k (nI v) = ca_en (ca_up f k v) := by
  funext j
  simp only [upd, ca_en, ca_up]
  split <;> rfl
theorem ca_upi (f : Nat → Nat) (k v : Nat) (x : Int32) (h : x = nI v) : upd (ca_en f) k x = ca_en (ca_up f k v) := by
  rw [h, ca_upe]
theorem ca_e0 : (fun _ => 0 : Nat → Int32) = ca_en (fun _ => 0) := rfl
theorem ca_lit : (0 : Int32) = nI 0 ∧ (1 : Int32) = nI 1 ∧ (2 : Int32) = nI 2 ∧ (6 : Int32) = nI 6 := ⟨rfl, rfl, rfl, rfl⟩

/-! counting -/
def ca_cn (p : Nat → Bool) : Nat → Nat
  | 0 => 0
  | n + 1 => ca_cn p n + (if p n = true then 1 else 0)
theorem ca_cn_t {p : Nat → Bool} {n : Nat} (h : p n = true) : ca_cn p (n + 1) = ca_cn p n + 1 := by
  simp only [ca_cn, h, if_true]
theorem ca_cn_f {p : Nat → Bool} {n : Nat} (h : p n = false) : ca_cn p (n + 1) = ca_cn p n := by
  simp [ca_cn, h]
theorem ca_cn_same {p q : Nat → Bool} : ∀ n : Nat, (∀ i, i < n → p i = q i) → ca_cn p n = ca_cn q n := by
  intro n
  induction n with
  | zero => intro _; rfl
  | succ n ih =>
    intro h
    simp only [ca_cn]
    rw [ih (fun i hi => h i (by omega)), h n (by omega)]
theorem ca_cn_le {p : Nat → Bool} : ∀ n : Nat, ca_cn p n ≤ n := by
  intro n
  induction n with
  | zero => exact Nat.le_refl _
  | succ n ih =>
    simp only [ca_cn]
    split <;> omega
theorem ca_cn_add {p q : Nat → Bool} {k : Nat} : ∀ n : Nat, k < n → p k = false → q k = true → (∀ i, i < n → i ≠ k → p i = q i) → ca_cn q n = ca_cn p n + 1 := by
  intro n
  induction n with
  | zero => intro h; omega
  | succ n ih =>
    intro hk hp hq h
    by_cases e : k = n
    · subst e
      rw [ca_cn_t hq, ca_cn_f hp, ca_cn_same (p := p) (q := q) k (fun i hi => h i (by omega) (by omega))]
    · have := ih (by omega) hp hq (fun i hi hik => h i (by omega) hik)
      simp only [ca_cn]
      rw [this, h n (by omega) (by omega)]
      omega
theorem ca_cn_mono {p q : Nat → Bool} : ∀ n : Nat, (∀ i, i < n → p i = true → q i = true) → ca_cn p n ≤ ca_cn q n := by
  intro n
  induction n with
  | zero => intro _; exact Nat.le_refl _
  | succ n ih =>
    intro h
    have h1 := ih (fun i hi => h i (by omega))
    cases hp : p n with
    | false =>
      rw [ca_cn_f hp]
      cases hq : q n with
      | false => rw [ca_cn_f hq]; exact h1
      | true => rw [ca_cn_t hq]; omega
    | true =>
      rw [ca_cn_t hp, ca_cn_t (h n (by omega) hp)]
      omega
theorem ca_cn_lt {p q : Nat → Bool} {k : Nat} : ∀ n : Nat, k < n → p k = false → q k = true → (∀ i, i < n → p i = true → q i = true) → ca_cn p n < ca_cn q n := by
  intro n
  induction n with
  | zero => intro h; omega
  | succ n ih =>
    intro hk hp hq h
    by_cases e : k = n
    · subst e
      rw [ca_cn_t hq, ca_cn_f hp]
      have := ca_cn_mono (p := p) (q := q) k (fun i hi => h i (by omega))
      omega
    · have h1 := ih (by omega) hp hq (fun i hi => h i (by omega))
      cases hpn : p n with
      | false =>
        rw [ca_cn_f hpn]
        cases hqn : q n with
        | false => rw [ca_cn_f hqn]; exact h1
        | true => rw [ca_cn_t hqn]; omega
      | true =>
        rw [ca_cn_t hpn, ca_cn_t (h n (by omega) hpn)]
        omega

/-! a pigeon hole -/
theorem ca_pig : ∀ (n m : Nat) (f : Nat → Nat), (∀ i, i < m → f i < n) → (∀ i j, i < m → j < m → f i = f j → i = j) → m ≤ n := by
  intro n
  induction n with
  | zero =>
    intro m f hb _
    by_cases e : m = 0
    · omega
    · have := hb 0 (by omega)
      omega
  | succ n ih =>
    intro m f hb hi
    by_cases e : m = 0
    · omega
    · obtain ⟨k, rfl⟩ : ∃ k, m = k + 1 := ⟨m - 1, by omega⟩
      have := ih k (fun i => if f i = n then f k else f i) (by
        intro i hik
        have h1 := hb i (by omega)
        have h2 := hb k (by omega)
        have h3 := hi i k (by omega) (by omega)
        split
        · next h =>
          have : f k ≠ n := fun z => by
            have := h3 (by omega)
            omega
          omega
        · omega) (by
        intro i j hik hjk he
        have h3 := hi i k (by omega) (by omega)
        have h4 := hi j k (by omega) (by omega)
        have h5 := hi i j (by omega) (by omega)
        split at he
        · split at he
          · exact h5 (by omega)
          · have := h4 (by omega); omega
        · split at he
          · have := h3 (by omega); omega
          · exact h5 he)
      omega

/-! ways up -/
def ca_it (P : Nat → Nat) : Nat → Nat → Nat
  | 0, x => x
  | n + 1, x => ca_it P n (P x)
theorem ca_it_a (P : Nat → Nat) (b x : Nat) : ∀ a : Nat, ca_it P (b + a) x = ca_it P b (ca_it P a x) := by
  intro a
  induction a generalizing x with
  | zero => rfl
  | succ a ih =>
    show ca_it P (b + a) (P x) = ca_it P b (ca_it P a (P x))
    exact ih (P x)
theorem ca_it_s (P : Nat → Nat) (n x : Nat) : ca_it P (n + 1) x = P (ca_it P n x) := by
  rw [Nat.add_comm, ca_it_a]
  rfl
theorem ca_it_c {P Q : Nat → Nat} : ∀ (n x : Nat), (∀ q, q < n → Q (ca_it P q x) = P (ca_it P q x)) → ca_it Q n x = ca_it P n x := by
  intro n
  induction n with
  | zero => intro x _; rfl
  | succ n ih =>
    intro x h
    rw [ca_it_s, ca_it_s, ih x (fun q hq => h q (by omega)), h n (by omega)]
theorem ca_it_0 {P : Nat → Nat} (h0 : P 0 = 0) (h1 : P 1 = 0) : ∀ n : Nat, ca_it P (n + 1) 1 = 0 := by
  intro n
  induction n with
  | zero => exact h1
  | succ n ih => rw [ca_it_s, ih, h0]
theorem ca_rb {P : Nat → Nat} {n x : Nat} (hb : ∀ q, q ≤ n → 1 ≤ ca_it P q x ∧ ca_it P q x < 62) (h1 : ca_it P n x = 1) (hm : ∀ q, q < n → ca_it P q x ≠ 1) : n ≤ 60 := by
  have aux : ∀ a b : Nat, a ≤ n → b ≤ n → a < b → ca_it P a x = ca_it P b x → False := by
    intro a b ha hb' hab he
    apply hm (n - b + a) (by omega)
    rw [ca_it_a, he, ← ca_it_a, show n - b + b = n by omega, h1]
  have := ca_pig 61 (n + 1) (fun q => ca_it P q x - 1) (by
    intro i hi
    have := hb i (by omega)
    omega) (by
    intro i j hi hj he
    have h2 := hb i (by omega)
    have h3 := hb j (by omega)
    have h4 := aux i j (by omega) (by omega)
    have h5 := aux j i (by omega) (by omega)
    by_cases e : i = j
    · exact e
    · by_cases l : i < j
      · exact (h4 l (by omega)).elim
      · exact (h5 (by omega) (by omega)).elim)
  omega
end
end
section
section
/-! the tree: kinds, parents, names -/
def ca_T (K P M : Nat → Nat) (nx : Nat) : Prop :=
  (K 0 = 0 ∧ K 1 = 2 ∧ P 0 = 0 ∧ P 1 = 0) ∧ (2 ≤ nx ∧ nx ≤ 62) ∧ (∀ i, nx ≤ i → K i = 0) ∧ (∀ i, K i ≤ 2 ∧ P i < 62 ∧ M i ≤ 255) ∧
  (∀ i, 2 ≤ i → K i ≠ 0 → K (P i) = 2) ∧ (∀ i j, 2 ≤ i → 2 ≤ j → K i ≠ 0 → K j ≠ 0 → P i = P j → M i = M j → i = j) ∧
  (∀ i, K i ≠ 0 → ∃ n, ca_it P n i = 1)
/-- the present ones, but the root -/
def ca_pr (K : Nat → Nat) (i : Nat) : Bool := decide (2 ≤ i) && decide (K i ≠ 0)
theorem ca_pr_t {K : Nat → Nat} {i : Nat} : ca_pr K i = true ↔ 2 ≤ i ∧ K i ≠ 0 := by
  simp [ca_pr]
theorem ca_pr_f {K : Nat → Nat} {i : Nat} : ca_pr K i = false ↔ ¬ (2 ≤ i ∧ K i ≠ 0) := by
  rw [← ca_pr_t]
  cases ca_pr K i <;> simp
theorem ca_prc {K P M : Nat → Nat} {nx x : Nat} (T : ca_T K P M nx) (hx : K x ≠ 0) : ∀ q : Nat, (∀ r, r < q → ca_it P r x ≠ 1) → K (ca_it P q x) ≠ 0 := by
  obtain ⟨⟨t0, t1, t2, t3⟩, _, _, _, tp, _, _⟩ := T
  intro q
  induction q with
  | zero => intro _; exact hx
  | succ q ih =>
    intro h
    have h1 := ih (fun r hr => h r (by omega))
    have h2 := h q (by omega)
    rw [ca_it_s]
    have h3 : ca_it P q x ≠ 0 := fun z => by rw [z] at h1; exact h1 t0
    have := tp (ca_it P q x) (by omega) h1
    omega
/-- a present one's way up: its length -/
theorem ca_way {K P M : Nat → Nat} {nx x : Nat} (T : ca_T K P M nx) (hx : K x ≠ 0) : ∃ n, n ≤ 60 ∧ ca_it P n x = 1 ∧ (∀ q, q < n → ca_it P q x ≠ 1) ∧ (∀ q, q ≤ n → K (ca_it P q x) ≠ 0) := by
  have T' := T
  obtain ⟨⟨t0, t1, t2, t3⟩, tn, tz, _, tp, _, tr⟩ := T
  obtain ⟨n, h1, h2⟩ := pk_least (fun n => ca_it P n x = 1) (tr x hx)
  have h3 : ∀ q, q ≤ n → K (ca_it P q x) ≠ 0 := fun q hq => ca_prc T' hx q (fun r hr => h2 r (by omega))
  refine ⟨n, ca_rb ?_ h1 h2, h1, h2, h3⟩
  intro q hq
  have h4 := h3 q hq
  have h5 : ca_it P q x ≠ 0 := fun z => by rw [z] at h4; exact h4 t0
  have h6 : ca_it P q x < 62 := by
    by_cases e : ca_it P q x < 62
    · exact e
    · exact (h4 (tz _ (by omega))).elim
  omega
/-- within, as both walk it -/
def ca_wn (P : Nat → Nat) (f : Nat) : Nat → Nat → Bool
  | 0, _ => false
  | n + 1, x => if x = f then true else if x = 1 then false else ca_wn P f n (P x)
theorem ca_wn_1 {P : Nat → Nat} {f : Nat} : ∀ (n x : Nat), ca_wn P f n x = true → ∃ m, ca_it P m x = f := by
  intro n
  induction n with
  | zero => intro x h; exact absurd h (by simp [ca_wn])
  | succ n ih =>
    intro x h
    simp only [ca_wn] at h
    split at h
    · next e => exact ⟨0, e⟩
    · split at h
      · exact absurd h (by decide)
      · obtain ⟨m, hm⟩ := ih _ h
        exact ⟨m + 1, hm⟩
theorem ca_wn_2 {P : Nat → Nat} {f : Nat} : ∀ (m n x : Nat), m < n → ca_it P m x = f → (∀ q, q < m → ca_it P q x ≠ 1) → ca_wn P f n x = true := by
  intro m
  induction m with
  | zero =>
    intro n x hn he _
    obtain ⟨k, rfl⟩ : ∃ k, n = k + 1 := ⟨n - 1, by omega⟩
    have e : x = f := he
    simp only [ca_wn, if_pos e]
  | succ m ih =>
    intro n x hn he hq
    obtain ⟨k, rfl⟩ : ∃ k, n = k + 1 := ⟨n - 1, by omega⟩
    have h1 : x ≠ 1 := hq 0 (by omega)
    simp only [ca_wn]
    split
    · rfl
    · exact ih k (P x) (by omega) he (fun q hq' => hq (q + 1) (by omega))
theorem ca_wn_iff {K P M : Nat → Nat} {nx x f : Nat} (T : ca_T K P M nx) (hf : 2 ≤ f) (hx : K x ≠ 0) : ca_wn P f 62 x = true ↔ ∃ m, ca_it P m x = f := by
  refine ⟨ca_wn_1 62 x, ?_⟩
  intro ⟨m, hm⟩
  obtain ⟨n, hn, h1, h2, h3⟩ := ca_way T hx
  obtain ⟨⟨t0, t1, t2, t3⟩, _⟩ := T
  have hmn : m ≤ n := by
    by_cases e : m ≤ n
    · exact e
    · obtain ⟨d, rfl⟩ : ∃ d, m = d + 1 + n := ⟨m - n - 1, by omega⟩
      rw [ca_it_a, h1, ca_it_0 t2 t3] at hm
      omega
  exact ca_wn_2 m 62 x (by omega) hm (fun q hq => h2 q (by omega))

/-! what a call does to the tree -/
theorem ca_T0 : ca_T (ca_up (fun _ => 0) 1 2) (fun _ => 0) (fun _ => 0) 2 := by
  refine ⟨⟨rfl, rfl, rfl, rfl⟩, by omega, ?_, ?_, ?_, ?_, ?_⟩
  · intro i hi; exact ca_upn (by omega)
  · intro i
    refine ⟨?_, (by decide : 0 < 62), (by decide : 0 ≤ 255)⟩
    by_cases e : i = 1
    · rw [e, ca_ups]; omega
    · rw [ca_upn e]; exact Nat.zero_le _
  · intro i hi h; exact (h (ca_upn (by omega))).elim
  · intro i j hi _ h; exact (h (ca_upn (by omega))).elim
  · intro i h
    by_cases e : i = 1
    · exact ⟨0, e⟩
    · exact (h (ca_upn e)).elim
theorem ca_T_make {K P M : Nat → Nat} {nx f n kd : Nat} (T : ca_T K P M nx) (hf : K f = 2) (hn : n ≤ 255) (hx : nx ≤ 61) (hk : kd = 1 ∨ kd = 2)
    (hu : ∀ i, 2 ≤ i → K i ≠ 0 → P i = f → M i ≠ n) : ca_T (ca_up K nx kd) (ca_up P nx f) (ca_up M nx n) (nx + 1) := by
  have T' := T
  obtain ⟨⟨t0, t1, t2, t3⟩, tn, tz, tb, tp, tu, tr⟩ := T
  have z : K nx = 0 := tz nx (by omega)
  have hfn : f ≠ nx := fun e => by rw [e] at hf; omega
  have hf62 : f < 62 := by
    by_cases e : f < 62
    · exact e
    · have := tz f (by omega); omega
  have pn : ∀ i, K i ≠ 0 → i ≠ nx := fun i hi e => hi (e ▸ z)
  have rch : ∀ i, K i ≠ 0 → ∃ m, ca_it (ca_up P nx f) m i = 1 := by
    intro i hi
    obtain ⟨m, _, h1, _, h3⟩ := ca_way T' hi
    refine ⟨m, ?_⟩
    rw [ca_it_c m i (fun q hq => ca_upn (pn _ (h3 q (by omega)))), h1]
  refine ⟨⟨?_, ?_, ?_, ?_⟩, by omega, ?_, ?_, ?_, ?_, ?_⟩
  · rw [ca_upn (by omega)]; exact t0
  · rw [ca_upn (by omega)]; exact t1
  · rw [ca_upn (by omega)]; exact t2
  · rw [ca_upn (by omega)]; exact t3
  · intro i hi; rw [ca_upn (by omega)]; exact tz i (by omega)
  · intro i
    have := tb i
    unfold ca_up
    split <;> omega
  · intro i hi h
    by_cases e : i = nx
    · rw [e, ca_ups, ca_upn hfn]; exact hf
    · rw [ca_upn e] at h
      have := tp i hi h
      rw [ca_upn e, ca_upn (pn _ (by omega))]; exact this
  · intro i j hi hj h1 h2 h3 h4
    by_cases e : i = nx
    · by_cases e' : j = nx
      · rw [e, e']
      · rw [e, ca_ups, ca_upn e'] at h3 h4
        rw [ca_upn e'] at h2
        exact (hu j hj h2 h3.symm h4.symm).elim
    · rw [ca_upn e] at h1 h3 h4
      by_cases e' : j = nx
      · rw [e', ca_ups] at h3 h4
        exact (hu i hi h1 h3 h4).elim
      · rw [ca_upn e'] at h2 h3 h4
        exact tu i j hi hj h1 h2 h3 h4
  · intro i h
    by_cases e : i = nx
    · obtain ⟨m, hm⟩ := rch f (by omega)
      refine ⟨m + 1, ?_⟩
      show ca_it (ca_up P nx f) m (ca_up P nx f i) = 1
      rw [e, ca_ups, hm]
    · rw [ca_upn e] at h
      exact rch i h
theorem ca_T_move {K P M : Nat → Nat} {nx i f n : Nat} (T : ca_T K P M nx) (hi : 2 ≤ i) (hki : K i ≠ 0) (hf : K f = 2) (hn : n ≤ 255) (hw : ¬ ∃ m, ca_it P m f = i)
    (hu : ∀ j, 2 ≤ j → K j ≠ 0 → j ≠ i → P j = f → M j ≠ n) : ca_T K (ca_up P i f) (ca_up M i n) nx := by
  have T' := T
  obtain ⟨⟨t0, t1, t2, t3⟩, tn, tz, tb, tp, tu, tr⟩ := T
  have hf62 : f < 62 := by
    by_cases e : f < 62
    · exact e
    · have := tz f (by omega); omega
  have keep : ∀ x m : Nat, (∀ q, q < m → ca_it P q x ≠ i) → ca_it (ca_up P i f) m x = ca_it P m x :=
    fun x m h => ca_it_c m x (fun q hq => ca_upn (h q hq))
  obtain ⟨mf, hmf⟩ := tr f (by omega)
  have rf : ca_it (ca_up P i f) mf f = 1 := by
    rw [keep f mf (fun q _ z => hw ⟨q, z⟩), hmf]
  refine ⟨⟨t0, t1, ?_, ?_⟩, tn, tz, ?_, ?_, ?_, ?_⟩
  · rw [ca_upn (by omega)]; exact t2
  · rw [ca_upn (by omega)]; exact t3
  · intro j
    have := tb j
    unfold ca_up
    split <;> omega
  · intro j hj h
    by_cases e : j = i
    · rw [e, ca_ups]; exact hf
    · rw [ca_upn e]; exact tp j hj h
  · intro j l hj hl h1 h2 h3 h4
    by_cases e : j = i
    · by_cases e' : l = i
      · rw [e, e']
      · rw [e, ca_ups, ca_upn e'] at h3 h4
        exact (hu l hl h2 e' h3.symm h4.symm).elim
    · rw [ca_upn e] at h3 h4
      by_cases e' : l = i
      · rw [e', ca_ups] at h3 h4
        exact (hu j hj h1 e h3 h4).elim
      · rw [ca_upn e'] at h3 h4
        exact tu j l hj hl h1 h2 h3 h4
  · intro x hx
    by_cases e : ∃ m, ca_it P m x = i
    · obtain ⟨m, h1, h2⟩ := pk_least (fun m => ca_it P m x = i) e
      refine ⟨mf + (1 + m), ?_⟩
      rw [ca_it_a, ca_it_a, keep x m h2, h1]
      show ca_it (ca_up P i f) mf (ca_up P i f i) = 1
      rw [ca_ups, rf]
    · obtain ⟨m, hm⟩ := tr x hx
      exact ⟨m, by rw [keep x m (fun q _ z => e ⟨q, z⟩), hm]⟩
/-- a set taken away -/
def ca_cut (D : Nat → Bool) (f : Nat → Nat) : Nat → Nat := fun j => if D j = true then 0 else f j
theorem ca_cut_t {D : Nat → Bool} {f : Nat → Nat} {j : Nat} (h : D j = true) : ca_cut D f j = 0 := if_pos h
theorem ca_cut_f {D : Nat → Bool} {f : Nat → Nat} {j : Nat} (h : D j = false) : ca_cut D f j = f j := by
  unfold ca_cut; rw [h]; rfl
theorem ca_cut_n {D : Nat → Bool} {f : Nat → Nat} {j : Nat} (h : ca_cut D f j ≠ 0) : D j = false ∧ f j ≠ 0 := by
  cases e : D j with
  | true => exact (h (ca_cut_t e)).elim
  | false => rw [ca_cut_f e] at h; exact ⟨rfl, h⟩
theorem ca_T_cut {K P M : Nat → Nat} {nx : Nat} {D : Nat → Bool} (T : ca_T K P M nx) (d0 : D 0 = false) (d1 : D 1 = false)
    (dc : ∀ j, 2 ≤ j → K j ≠ 0 → D j = false → D (P j) = false) : ca_T (ca_cut D K) (ca_cut D P) (ca_cut D M) nx := by
  have T' := T
  obtain ⟨⟨t0, t1, t2, t3⟩, tn, tz, tb, tp, tu, tr⟩ := T
  refine ⟨⟨?_, ?_, ?_, ?_⟩, tn, ?_, ?_, ?_, ?_, ?_⟩
  · rw [ca_cut_f d0]; exact t0
  · rw [ca_cut_f d1]; exact t1
  · rw [ca_cut_f d0]; exact t2
  · rw [ca_cut_f d1]; exact t3
  · intro i hi
    have := tz i hi
    unfold ca_cut; split <;> omega
  · intro i
    have := tb i
    unfold ca_cut; split <;> omega
  · intro i hi h
    obtain ⟨h1, h2⟩ := ca_cut_n h
    rw [ca_cut_f h1, ca_cut_f (dc i hi h2 h1)]
    exact tp i hi h2
  · intro i j hi hj h1 h2 h3 h4
    obtain ⟨a1, a2⟩ := ca_cut_n h1
    obtain ⟨b1, b2⟩ := ca_cut_n h2
    rw [ca_cut_f a1, ca_cut_f b1] at h3 h4
    exact tu i j hi hj a2 b2 h3 h4
  · intro i h
    obtain ⟨h1, h2⟩ := ca_cut_n h
    obtain ⟨n, _, w1, w2, w3⟩ := ca_way T' h2
    have dn : ∀ q, q ≤ n → D (ca_it P q i) = false := by
      intro q
      induction q with
      | zero => intro _; exact h1
      | succ q ih =>
        intro hq
        have a := ih (by omega)
        have b := w3 q (by omega)
        have c := w2 q (by omega)
        have d : ca_it P q i ≠ 0 := fun z => by rw [z] at b; exact b t0
        rw [ca_it_s]
        exact dc _ (by omega) b a
    exact ⟨n, by rw [ca_it_c n i (fun q hq => ca_cut_f (dn q (by omega))), w1]⟩
/-- all below one: closed -/
theorem ca_below {K P M : Nat → Nat} {nx f : Nat} (T : ca_T K P M nx) (hf : 2 ≤ f) {D : Nat → Bool} (hD : ∀ j, D j = true ↔ (2 ≤ j ∧ j < 62 ∧ K j ≠ 0 ∧ ca_wn P f 62 j = true)) :
    D 0 = false ∧ D 1 = false ∧ (∀ j, 2 ≤ j → K j ≠ 0 → D j = false → D (P j) = false) := by
  have T' := T
  obtain ⟨⟨t0, t1, t2, t3⟩, tn, tz, tb, tp, tu, tr⟩ := T
  have fl : ∀ j, ¬ (D j = true) → D j = false := fun j h => by
    cases e : D j with
    | true => exact (h e).elim
    | false => rfl
  refine ⟨fl 0 (fun h => ?_), fl 1 (fun h => ?_), ?_⟩
  · have := (hD 0).mp h; omega
  · have := (hD 1).mp h; omega
  · intro j hj hk hd
    refine fl _ (fun h => ?_)
    obtain ⟨h1, h2, h3, h4⟩ := (hD _).mp h
    obtain ⟨m, hm⟩ := (ca_wn_iff T' hf h3).mp h4
    have h5 : ca_wn P f 62 j = true := (ca_wn_iff T' hf hk).mpr ⟨m + 1, hm⟩
    have h6 : j < 62 := by
      by_cases e : j < 62
      · exact e
      · exact (hk (tz j (by omega))).elim
    rw [(hD j).mpr ⟨hj, h6, hk, h5⟩] at hd
    exact absurd hd (by decide)
/-- without children, one alone is closed -/
theorem ca_alone {K P M : Nat → Nat} {nx i : Nat} (T : ca_T K P M nx) (hi : 2 ≤ i) (hc : ∀ j, 2 ≤ j → K j ≠ 0 → P j ≠ i) :
    ca_T (ca_up K i 0) (ca_up P i 0) (ca_up M i 0) nx := by
  have e : ∀ f : Nat → Nat, ca_up f i 0 = ca_cut (fun j => decide (j = i)) f := by
    intro f
    funext j
    unfold ca_up ca_cut
    by_cases h : j = i
    · simp [h]
    · simp [h]
  rw [e, e, e]
  refine ca_T_cut T (by simp; omega) (by simp; omega) (fun j hj hk _ => ?_)
  have := hc j hj hk
  simp [this]
end
end
section
section
/-! the blocks: an extent e belongs to item e / 6 and is its e % 6 th -/
def ca_A (C : Nat → Nat) (e : Nat) : Prop := e % 6 < C (e / 6)
def ca_S (F L : Nat → Nat) (e b : Nat) : Prop := F e ≤ b ∧ b < F e + L e
def ca_B (C F L U : Nat → Nat) : Prop :=
  (∀ i, C i ≤ 6) ∧ (∀ e, ca_A C e → 1 ≤ L e ∧ L e ≤ 32 ∧ F e + L e ≤ 96) ∧
  (∀ e d b, ca_A C e → ca_A C d → ca_S F L e b → ca_S F L d b → e = d) ∧ (∀ b, U b ≤ 1) ∧
  (∀ b, b < 96 → (U b ≠ 0 ↔ ∃ e, ca_A C e ∧ ca_S F L e b))
/-- the range from a, of length l, set to x -/
def ca_rg (U : Nat → Nat) (a l x : Nat) : Nat → Nat := fun b => if a ≤ b ∧ b < a + l then x else U b
theorem ca_rg_i {U : Nat → Nat} {a l x b : Nat} (h : a ≤ b ∧ b < a + l) : ca_rg U a l x b = x := if_pos h
theorem ca_rg_o {U : Nat → Nat} {a l x b : Nat} (h : ¬ (a ≤ b ∧ b < a + l)) : ca_rg U a l x b = U b := if_neg h
theorem ca_rg_0 (U : Nat → Nat) (a x : Nat) : ca_rg U a 0 x = U := by
  funext b
  exact ca_rg_o (by omega)
theorem ca_rg_s (U : Nat → Nat) (a l x : Nat) : ca_up (ca_rg U a l x) (a + l) x = ca_rg U a (l + 1) x := by
  funext b
  unfold ca_up ca_rg
  by_cases h : b = a + l
  · rw [if_pos h, if_pos (by omega)]
  · rw [if_neg h]
    by_cases h2 : a ≤ b ∧ b < a + l
    · rw [if_pos h2, if_pos (by omega)]
    · rw [if_neg h2, if_neg (by omega)]
theorem ca_B0 : ca_B (fun _ => 0) (fun _ => 0) (fun _ => 0) (fun _ => 0) := by
  refine ⟨fun _ => Nat.zero_le _, fun e h => ?_, fun e d b h => ?_, fun _ => Nat.zero_le _, fun b _ => ⟨fun h => (h rfl).elim, fun ⟨e, h, _⟩ => ?_⟩⟩
  · exact (Nat.not_lt_zero _ h).elim
  · exact (Nat.not_lt_zero _ h).elim
  · exact (Nat.not_lt_zero _ h).elim
theorem ca_A_dn {C : Nat → Nat} {i c e : Nat} (hc : C i = c + 1) (h6 : C i ≤ 6) : ca_A (ca_up C i c) e ↔ ca_A C e ∧ e ≠ i * 6 + c := by
  unfold ca_A
  by_cases h : e / 6 = i
  · rw [h, ca_ups, hc]
    omega
  · rw [ca_upn h]
    constructor
    · intro z; exact ⟨z, by omega⟩
    · intro z; exact z.1
theorem ca_A_ad {C : Nat → Nat} {i c e : Nat} (hc : C i = c) (h6 : c < 6) : ca_A (ca_up C i (c + 1)) e ↔ ca_A C e ∨ e = i * 6 + c := by
  unfold ca_A
  by_cases h : e / 6 = i
  · rw [h, ca_ups, hc]
    omega
  · rw [ca_upn h]
    constructor
    · intro z; exact Or.inl z
    · intro z
      cases z with
      | inl z => exact z
      | inr z => omega
theorem ca_B_dn {C F L U : Nat → Nat} {i c : Nat} (B : ca_B C F L U) (hc : C i = c + 1) : ca_B (ca_up C i c) F L (ca_rg U (F (i * 6 + c)) (L (i * 6 + c)) 0) := by
  obtain ⟨b6, bl, bd, b1, bu⟩ := B
  have h6 := b6 i
  have act : ca_A C (i * 6 + c) := by
    unfold ca_A
    rw [show (i * 6 + c) / 6 = i by omega]
    omega
  refine ⟨?_, ?_, ?_, ?_, ?_⟩
  · intro j
    have := b6 j
    unfold ca_up; split <;> omega
  · intro e h
    exact bl e ((ca_A_dn hc h6).mp h).1
  · intro e d b h1 h2
    exact bd e d b ((ca_A_dn hc h6).mp h1).1 ((ca_A_dn hc h6).mp h2).1
  · intro b
    have := b1 b
    unfold ca_rg; split <;> omega
  · intro b hb
    by_cases h : F (i * 6 + c) ≤ b ∧ b < F (i * 6 + c) + L (i * 6 + c)
    · rw [ca_rg_i h]
      refine ⟨fun z => (z rfl).elim, fun ⟨e, h1, h2⟩ => ?_⟩
      have h3 := (ca_A_dn hc h6).mp h1
      exact (h3.2 (bd e _ b h3.1 act h2 h)).elim
    · rw [ca_rg_o h, bu b hb]
      constructor
      · intro ⟨e, h1, h2⟩
        refine ⟨e, (ca_A_dn hc h6).mpr ⟨h1, fun z => ?_⟩, h2⟩
        rw [z] at h2
        exact h h2
      · intro ⟨e, h1, h2⟩
        exact ⟨e, ((ca_A_dn hc h6).mp h1).1, h2⟩
theorem ca_S_o {F L : Nat → Nat} {k a l e b : Nat} (h : e ≠ k) : ca_S (ca_up F k a) (ca_up L k l) e b ↔ ca_S F L e b := by
  unfold ca_S
  rw [ca_upn h, ca_upn h]
theorem ca_S_i {F L : Nat → Nat} {k a l b : Nat} : ca_S (ca_up F k a) (ca_up L k l) k b ↔ a ≤ b ∧ b < a + l := by
  unfold ca_S
  rw [ca_ups, ca_ups]
theorem ca_B_ad {C F L U : Nat → Nat} {i c a l : Nat} (B : ca_B C F L U) (hc : C i = c) (h6 : c < 6) (l1 : 1 ≤ l) (l2 : l ≤ 32) (al : a + l ≤ 96)
    (fr : ∀ b, a ≤ b → b < a + l → U b = 0) : ca_B (ca_up C i (c + 1)) (ca_up F (i * 6 + c) a) (ca_up L (i * 6 + c) l) (ca_rg U a l 1) := by
  obtain ⟨b6, bl, bd, b1, bu⟩ := B
  have na : ¬ ca_A C (i * 6 + c) := by
    unfold ca_A
    rw [show (i * 6 + c) / 6 = i by omega]
    omega
  have nov : ∀ e b, ca_A C e → ca_S F L e b → ¬ (a ≤ b ∧ b < a + l) := by
    intro e b h1 h2 h3
    have h4 := bl e h1
    have h5 : b < 96 := by omega
    exact ((bu b h5).mpr ⟨e, h1, h2⟩) (fr b h3.1 h3.2)
  refine ⟨?_, ?_, ?_, ?_, ?_⟩
  · intro j
    have := b6 j
    unfold ca_up; split <;> omega
  · intro e h
    by_cases z : e = i * 6 + c
    · rw [z, ca_ups, ca_ups]; omega
    · rw [ca_upn z, ca_upn z]
      cases (ca_A_ad hc h6).mp h with
      | inl h => exact bl e h
      | inr h => exact (z h).elim
  · intro e d b h1 h2 h3 h4
    cases (ca_A_ad hc h6).mp h1 with
    | inl x1 =>
      have z1 : e ≠ i * 6 + c := fun z => na (z ▸ x1)
      rw [ca_S_o z1] at h3
      cases (ca_A_ad hc h6).mp h2 with
      | inl x2 =>
        have z2 : d ≠ i * 6 + c := fun z => na (z ▸ x2)
        rw [ca_S_o z2] at h4
        exact bd e d b x1 x2 h3 h4
      | inr x2 =>
        rw [x2, ca_S_i] at h4
        exact (nov e b x1 h3 h4).elim
    | inr x1 =>
      rw [x1, ca_S_i] at h3
      cases (ca_A_ad hc h6).mp h2 with
      | inl x2 =>
        have z2 : d ≠ i * 6 + c := fun z => na (z ▸ x2)
        rw [ca_S_o z2] at h4
        exact (nov d b x2 h4 h3).elim
      | inr x2 => rw [x1, x2]
  · intro b
    have := b1 b
    unfold ca_rg; split <;> omega
  · intro b hb
    by_cases h : a ≤ b ∧ b < a + l
    · rw [ca_rg_i h]
      exact ⟨fun _ => ⟨i * 6 + c, (ca_A_ad hc h6).mpr (Or.inr rfl), ca_S_i.mpr h⟩, fun _ => by omega⟩
    · rw [ca_rg_o h, bu b hb]
      constructor
      · intro ⟨e, h1, h2⟩
        have z : e ≠ i * 6 + c := fun z => na (z ▸ h1)
        exact ⟨e, (ca_A_ad hc h6).mpr (Or.inl h1), (ca_S_o z).mpr h2⟩
      · intro ⟨e, h1, h2⟩
        cases (ca_A_ad hc h6).mp h1 with
        | inl x =>
          have z : e ≠ i * 6 + c := fun z => na (z ▸ x)
          exact ⟨e, x, (ca_S_o z).mp h2⟩
        | inr x =>
          rw [x, ca_S_i] at h2
          exact (h h2).elim
/-- a free window of length l at b -/
def ca_ff (U : Nat → Nat) (l b : Nat) : Prop := b + l ≤ 96 ∧ ∀ c, b ≤ c → c < b + l → U c = 0
/-- what the scan for a run knows at block t with run r -/
def ca_ru (U : Nat → Nat) (l t r : Nat) : Prop := r ≤ t ∧ r < l ∧ (∀ c, t - r ≤ c → c < t → U c = 0) ∧ (r = t ∨ (r < t ∧ U (t - r - 1) ≠ 0)) ∧ (∀ b, b + l ≤ t → ¬ ca_ff U l b)
theorem ca_ru0 {U : Nat → Nat} {l : Nat} (h : 1 ≤ l) : ca_ru U l 0 0 :=
  ⟨by omega, by omega, fun c _ h2 => by omega, Or.inl rfl, fun b hb => by omega⟩
theorem ca_ru_u {U : Nat → Nat} {l t r : Nat} (h : ca_ru U l t r) (hu : U t ≠ 0) : ca_ru U l (t + 1) 0 := by
  obtain ⟨h1, h2, h3, h4, h5⟩ := h
  refine ⟨by omega, by omega, fun c _ _ => by omega, Or.inr ⟨by omega, ?_⟩, fun b hb w => ?_⟩
  · rw [show t + 1 - 0 - 1 = t by omega]; exact hu
  · by_cases e : b + l ≤ t
    · exact h5 b e w
    · exact hu (w.2 t (by omega) (by omega))
theorem ca_ru_f {U : Nat → Nat} {l t r : Nat} (h : ca_ru U l t r) (hu : U t = 0) (hl : r + 1 ≠ l) : ca_ru U l (t + 1) (r + 1) := by
  obtain ⟨h1, h2, h3, h4, h5⟩ := h
  refine ⟨by omega, by omega, fun c c1 c2 => ?_, ?_, fun b hb w => ?_⟩
  · by_cases e : c = t
    · rw [e]; exact hu
    · exact h3 c (by omega) (by omega)
  · cases h4 with
    | inl h => exact Or.inl (by omega)
    | inr h =>
      refine Or.inr ⟨by omega, ?_⟩
      rw [show t + 1 - (r + 1) - 1 = t - r - 1 by omega]
      exact h.2
  · by_cases e : b + l ≤ t
    · exact h5 b e w
    · cases h4 with
      | inl h => omega
      | inr h => exact h.2 (w.2 (t - r - 1) (by omega) (by omega))
theorem ca_ru_e {U : Nat → Nat} {l t r : Nat} (h : ca_ru U l t r) (hu : U t = 0) (hl : r + 1 = l) (ht : t < 96) : l ≤ t + 1 ∧ ca_ff U l (t + 1 - l) ∧ ∀ b, b < t + 1 - l → ¬ ca_ff U l b := by
  obtain ⟨h1, h2, h3, h4, h5⟩ := h
  refine ⟨by omega, ⟨by omega, fun c c1 c2 => ?_⟩, fun b hb => h5 b (by omega)⟩
  by_cases e : c = t
  · rw [e]; exact hu
  · exact h3 c (by omega) (by omega)
theorem ca_ru_n {U : Nat → Nat} {l r : Nat} (h : ca_ru U l 96 r) : ∀ b, ¬ ca_ff U l b := by
  intro b w
  exact h.2.2.2.2 b w.1 w
end
end
section
section
/-! children -/
def ca_ch (K P : Nat → Nat) (f i : Nat) : Prop := 2 ≤ i ∧ i < 62 ∧ K i ≠ 0 ∧ P i = f
/-- what a look for a name answers -/
def ca_lk (K P M : Nat → Nat) (f n r : Nat) : Prop := (r = 0 ∧ ∀ i, ca_ch K P f i → M i ≠ n) ∨ (ca_ch K P f r ∧ M r = n)
theorem ca_lk_u {K P M : Nat → Nat} {nx f n r s : Nat} (T : ca_T K P M nx) (h1 : ca_lk K P M f n r) (h2 : ca_lk K P M f n s) : r = s := by
  obtain ⟨_, _, _, _, _, tu, _⟩ := T
  cases h1 with
  | inl h1 =>
    cases h2 with
    | inl h2 => rw [h1.1, h2.1]
    | inr h2 => exact (h1.2 s h2.1 h2.2).elim
  | inr h1 =>
    cases h2 with
    | inl h2 => exact (h2.2 r h1.1 h1.2).elim
    | inr h2 =>
      obtain ⟨⟨a1, a2, a3, a4⟩, a5⟩ := h1
      obtain ⟨⟨b1, b2, b3, b4⟩, b5⟩ := h2
      exact tu r s a1 b1 a3 b3 (by omega) (by omega)
theorem ca_lk_e (K P M : Nat → Nat) (f n : Nat) : ∃ r, ca_lk K P M f n r := by
  by_cases h : ∃ i, ca_ch K P f i ∧ M i = n
  · obtain ⟨i, h1, h2⟩ := h
    exact ⟨i, Or.inr ⟨h1, h2⟩⟩
  · exact ⟨0, Or.inl ⟨rfl, fun i h1 h2 => h ⟨i, h1, h2⟩⟩⟩
theorem ca_lk_b {K P M : Nat → Nat} {f n r : Nat} (h : ca_lk K P M f n r) : r = 0 ∨ (2 ≤ r ∧ r < 62) := by
  cases h with
  | inl h => exact Or.inl h.1
  | inr h => exact Or.inr ⟨h.1.1, h.1.2.1⟩
/-- the children named below n -/
def ca_cb (K P M : Nat → Nat) (f n i : Nat) : Bool := decide (2 ≤ i) && decide (K i ≠ 0) && decide (P i = f) && decide (M i < n)
theorem ca_cb_t {K P M : Nat → Nat} {f n i : Nat} : ca_cb K P M f n i = true ↔ 2 ≤ i ∧ K i ≠ 0 ∧ P i = f ∧ M i < n := by
  simp [ca_cb, and_assoc]
theorem ca_cb_f {K P M : Nat → Nat} {f n i : Nat} : ca_cb K P M f n i = false ↔ ¬ (2 ≤ i ∧ K i ≠ 0 ∧ P i = f ∧ M i < n) := by
  rw [← ca_cb_t]
  cases ca_cb K P M f n i <;> simp
def ca_rk (K P M : Nat → Nat) (f n : Nat) : Nat := ca_cn (ca_cb K P M f n) 62
theorem ca_bl {a b : Bool} (h : a = true ↔ b = true) : a = b := by
  cases a <;> cases b <;> simp at h ⊢
theorem ca_rk_0 (K P M : Nat → Nat) (f : Nat) : ca_rk K P M f 0 = 0 := by
  have : ∀ n, ca_cn (ca_cb K P M f 0) n = 0 := by
    intro n
    induction n with
    | zero => rfl
    | succ n ih => rw [ca_cn_f (p := ca_cb K P M f 0) (n := n) (ca_cb_f.mpr (by omega)), ih]
  exact this 62
theorem ca_rk_n {K P M : Nat → Nat} {f n : Nat} (h : ca_lk K P M f n 0) : ca_rk K P M f (n + 1) = ca_rk K P M f n := by
  unfold ca_rk
  refine ca_cn_same 62 (fun i hi => ca_bl ?_)
  rw [ca_cb_t, ca_cb_t]
  cases h with
  | inr h => have := h.1.1; omega
  | inl h =>
    constructor
    · intro ⟨a, b, c, d⟩
      have := h.2 i ⟨a, hi, b, c⟩
      exact ⟨a, b, c, by omega⟩
    · intro ⟨a, b, c, d⟩
      exact ⟨a, b, c, by omega⟩
theorem ca_rk_s {K P M : Nat → Nat} {nx f n r : Nat} (T : ca_T K P M nx) (hr : r ≠ 0) (h : ca_lk K P M f n r) : ca_rk K P M f (n + 1) = ca_rk K P M f n + 1 := by
  obtain ⟨_, _, _, _, _, tu, _⟩ := T
  cases h with
  | inl h => exact (hr h.1).elim
  | inr h =>
    obtain ⟨⟨a1, a2, a3, a4⟩, a5⟩ := h
    unfold ca_rk
    refine ca_cn_add (k := r) 62 a2 (ca_cb_f.mpr (by omega)) (ca_cb_t.mpr ⟨a1, a3, a4, by omega⟩) (fun i hi hir => ca_bl ?_)
    rw [ca_cb_t, ca_cb_t]
    constructor
    · intro ⟨a, b, c, d⟩
      exact ⟨a, b, c, by omega⟩
    · intro ⟨a, b, c, d⟩
      refine ⟨a, b, c, ?_⟩
      by_cases e : M i = n
      · exact (hir (tu i r a a1 b a3 (by omega) (by omega))).elim
      · omega
theorem ca_rk_lt {K P M : Nat → Nat} {f n m r : Nat} (h : ca_ch K P f r) (hn : M r = n) (hm : n < m) : ca_rk K P M f n < ca_rk K P M f m := by
  obtain ⟨a1, a2, a3, a4⟩ := h
  unfold ca_rk
  refine ca_cn_lt (k := r) 62 a2 (ca_cb_f.mpr (by omega)) (ca_cb_t.mpr ⟨a1, a3, a4, by omega⟩) (fun i hi => ?_)
  rw [ca_cb_t, ca_cb_t]
  intro ⟨a, b, c, d⟩
  exact ⟨a, b, c, by omega⟩
theorem ca_rk_b (K P M : Nat → Nat) (f n : Nat) : ca_rk K P M f n ≤ 62 := ca_cn_le 62
/-- the number of children -/
def ca_nc (K P : Nat → Nat) (f i : Nat) : Bool := decide (2 ≤ i) && decide (K i ≠ 0) && decide (P i = f)
theorem ca_nc_t {K P : Nat → Nat} {f i : Nat} : ca_nc K P f i = true ↔ 2 ≤ i ∧ K i ≠ 0 ∧ P i = f := by
  simp [ca_nc, and_assoc]
theorem ca_nc_f {K P : Nat → Nat} {f i : Nat} : ca_nc K P f i = false ↔ ¬ (2 ≤ i ∧ K i ≠ 0 ∧ P i = f) := by
  rw [← ca_nc_t]
  cases ca_nc K P f i <;> simp
theorem ca_rk_all {K P M : Nat → Nat} {nx f : Nat} (T : ca_T K P M nx) : ca_rk K P M f 256 = ca_cn (ca_nc K P f) 62 := by
  obtain ⟨_, _, _, tb, _, _, _⟩ := T
  unfold ca_rk
  refine ca_cn_same 62 (fun i hi => ca_bl ?_)
  have := tb i
  rw [ca_cb_t, ca_nc_t]
  constructor
  · intro ⟨a, b, c, d⟩; exact ⟨a, b, c⟩
  · intro ⟨a, b, c⟩; exact ⟨a, b, c, by omega⟩
theorem ca_nc_0 {K P : Nat → Nat} {f : Nat} (h : ca_cn (ca_nc K P f) 62 = 0) : ∀ i, i < 62 → 2 ≤ i → K i ≠ 0 → P i ≠ f := by
  intro i hi h2 hk hp
  have := ca_cn_lt (p := fun _ => false) (q := ca_nc K P f) (k := i) 62 hi rfl (ca_nc_t.mpr ⟨h2, hk, hp⟩) (fun j _ h => absurd h (by decide))
  omega
/-- a file has none -/
theorem ca_nc_1 {K P M : Nat → Nat} {nx f : Nat} (T : ca_T K P M nx) (hf : K f ≠ 2) : ca_cn (ca_nc K P f) 62 = 0 := by
  obtain ⟨_, _, _, _, tp, _, _⟩ := T
  have : ∀ n, ca_cn (ca_nc K P f) n = 0 := by
    intro n
    induction n with
    | zero => rfl
    | succ n ih =>
      rw [ca_cn_f (p := ca_nc K P f) (n := n) (ca_nc_f.mpr ?_), ih]
      intro ⟨a, b, c⟩
      have := tp n a b
      rw [c] at this
      exact hf this
  exact this 62
/-- counting the items -/
theorem ca_ic_mk {K : Nat → Nat} {k v : Nat} (hk : 2 ≤ k) (h62 : k < 62) (h0 : K k = 0) (hv : v ≠ 0) : ca_cn (ca_pr (ca_up K k v)) 62 = ca_cn (ca_pr K) 62 + 1 := by
  refine ca_cn_add (k := k) 62 h62 (ca_pr_f.mpr (by omega)) (ca_pr_t.mpr ⟨hk, by rw [ca_ups]; exact hv⟩) (fun i _ hik => ca_bl ?_)
  rw [ca_pr_t, ca_pr_t, ca_upn hik]
theorem ca_ic_rm {K : Nat → Nat} {k : Nat} (hk : 2 ≤ k) (h62 : k < 62) (h0 : K k ≠ 0) : ca_cn (ca_pr K) 62 = ca_cn (ca_pr (ca_up K k 0)) 62 + 1 := by
  refine ca_cn_add (k := k) 62 h62 (ca_pr_f.mpr (fun z => z.2 ca_ups)) (ca_pr_t.mpr ⟨hk, h0⟩) (fun i _ hik => ca_bl ?_)
  rw [ca_pr_t, ca_pr_t, ca_upn hik]
end
end
section
section
/-! the relation, and what a call does to it -/
def ca_R (K P M C F L U : Nat → Nat) (nx ic : Nat) (p m c : Nat → Int32) : Prop :=
  ca_T K P M nx ∧ ca_B C F L U ∧ (ic = ca_cn (ca_pr K) 62 ∧ ic ≤ 24) ∧ (∀ i, K i ≠ 1 → C i = 0) ∧
  (∀ i, 2 ≤ i → K i ≠ 0 → p i = nI (P i) ∧ m i = nI (M i) ∧ c i = nI (C i))
theorem ca_cn0 : ca_cn (ca_pr (ca_up (fun _ => 0) 1 2)) 62 = 0 := by
  have : ∀ n, ca_cn (ca_pr (ca_up (fun _ => 0) 1 2)) n = 0 := by
    intro n
    induction n with
    | zero => rfl
    | succ n ih =>
      rw [ca_cn_f (p := ca_pr (ca_up (fun _ => 0) 1 2)) (n := n) (ca_pr_f.mpr (fun z => z.2 (ca_upn (by omega)))), ih]
  exact this 62
theorem ca_R0 {p m c : Nat → Int32} : ca_R (ca_up (fun _ => 0) 1 2) (fun _ => 0) (fun _ => 0) (fun _ => 0) (fun _ => 0) (fun _ => 0) (fun _ => 0) 2 0 p m c :=
  ⟨ca_T0, ca_B0, ⟨ca_cn0.symm, by omega⟩, fun _ _ => rfl, fun i hi h => (h (ca_upn (by omega))).elim⟩
section
variable {K P M C F L U : Nat → Nat} {nx ic : Nat} {p m c : Nat → Int32}
theorem ca_R_make (R : ca_R K P M C F L U nx ic p m c) {f n kd : Nat} (hf : K f = 2) (hn : n ≤ 255) (hx : nx ≤ 61) (hi : ic < 24) (hk : kd = 1 ∨ kd = 2)
    (hu : ∀ i, ca_ch K P f i → M i ≠ n) :
    ca_R (ca_up K nx kd) (ca_up P nx f) (ca_up M nx n) C F L U (nx + 1) (ic + 1) (upd p nx (nI f)) (upd m nx (nI n)) (upd c nx (nI 0)) := by
  obtain ⟨T, B, ⟨h1, h2⟩, h3, h4⟩ := R
  have tn := T.2.1
  have tz := T.2.2.1
  have z : K nx = 0 := tz nx (by omega)
  have b62 : ∀ i, K i ≠ 0 → i < 62 := fun i hi => by
    by_cases e : i < 62
    · exact e
    · exact (hi (tz i (by omega))).elim
  refine ⟨ca_T_make T hf hn hx hk (fun i a b d => hu i ⟨a, b62 i b, b, d⟩), B, ⟨?_, by omega⟩, ?_, ?_⟩
  · rw [ca_ic_mk (by omega) (by omega) z (by omega), h1]
  · intro i hi
    by_cases e : i = nx
    · rw [e]; exact h3 nx (by omega)
    · rw [ca_upn e] at hi; exact h3 i hi
  · intro i hi hki
    by_cases e : i = nx
    · rw [e, pk_us, pk_us, pk_us, ca_ups, ca_ups, h3 nx (by omega)]
      exact ⟨rfl, rfl, rfl⟩
    · rw [ca_upn e] at hki
      rw [pk_un e, pk_un e, pk_un e, ca_upn e, ca_upn e]
      exact h4 i hi hki
theorem ca_R_move (R : ca_R K P M C F L U nx ic p m c) {i f n : Nat} (hi : 2 ≤ i) (hki : K i ≠ 0) (hf : K f = 2) (hn : n ≤ 255) (hw : ca_wn P i 62 f = false)
    (hu : ∀ j, ca_ch K P f j → j ≠ i → M j ≠ n) :
    ca_R K (ca_up P i f) (ca_up M i n) C F L U nx ic (upd p i (nI f)) (upd m i (nI n)) c := by
  obtain ⟨T, B, h12, h3, h4⟩ := R
  have tn := T.2.1
  have tz := T.2.2.1
  have b62 : ∀ i, K i ≠ 0 → i < 62 := fun i hi => by
    by_cases e : i < 62
    · exact e
    · exact (hi (tz i (by omega))).elim
  refine ⟨ca_T_move T hi hki hf hn ?_ (fun j a b e d => hu j ⟨a, b62 j b, b, d⟩ e), B, h12, h3, ?_⟩
  · rw [← ca_wn_iff T hi (by omega), hw]; decide
  · intro j hj hkj
    by_cases e : j = i
    · rw [e, pk_us, pk_us, ca_ups, ca_ups]
      exact ⟨rfl, rfl, (h4 i hi hki).2.2⟩
    · rw [pk_un e, pk_un e, ca_upn e, ca_upn e]
      exact h4 j hj hkj
theorem ca_R_ext (R : ca_R K P M C F L U nx ic p m c) {i a l : Nat} (hi : 2 ≤ i) (hki : K i = 1) (h6 : C i < 6) (l1 : 1 ≤ l) (l2 : l ≤ 32) (w : ca_ff U l a) :
    ca_R K P M (ca_up C i (C i + 1)) (ca_up F (i * 6 + C i) a) (ca_up L (i * 6 + C i) l) (ca_rg U a l 1) nx ic p m (upd c i (nI (C i + 1))) := by
  obtain ⟨T, B, h12, h3, h4⟩ := R
  refine ⟨T, ca_B_ad B rfl h6 l1 l2 w.1 w.2, h12, ?_, ?_⟩
  · intro j hj
    by_cases e : j = i
    · rw [e] at hj; exact (hj hki).elim
    · rw [ca_upn e]; exact h3 j hj
  · intro j hj hkj
    have := h4 j hj hkj
    by_cases e : j = i
    · rw [e] at this ⊢
      rw [pk_us, ca_ups]
      exact ⟨this.1, this.2.1, rfl⟩
    · rw [pk_un e, ca_upn e]; exact this
theorem ca_R_shr (R : ca_R K P M C F L U nx ic p m c) {i q : Nat} (hi : 2 ≤ i) (hki : K i = 1) (hc : C i = q + 1) :
    ca_R K P M (ca_up C i q) F L (ca_rg U (F (i * 6 + q)) (L (i * 6 + q)) 0) nx ic p m (upd c i (nI q)) := by
  obtain ⟨T, B, h12, h3, h4⟩ := R
  refine ⟨T, ca_B_dn B hc, h12, ?_, ?_⟩
  · intro j hj
    by_cases e : j = i
    · rw [e] at hj; exact (hj hki).elim
    · rw [ca_upn e]; exact h3 j hj
  · intro j hj hkj
    have := h4 j hj hkj
    by_cases e : j = i
    · rw [e] at this ⊢
      rw [pk_us, ca_ups]
      exact ⟨this.1, this.2.1, rfl⟩
    · rw [pk_un e, ca_upn e]; exact this
theorem ca_R_rm (R : ca_R K P M C F L U nx ic p m c) {i : Nat} {V : Nat → Nat} (hi : 2 ≤ i) (hki : K i ≠ 0) (hc : ca_cn (ca_nc K P i) 62 = 0) (B : ca_B (ca_up C i 0) F L V) :
    1 ≤ ic ∧ ca_R (ca_up K i 0) (ca_up P i 0) (ca_up M i 0) (ca_up C i 0) F L V nx (ic - 1) p m c := by
  obtain ⟨T, _, ⟨h1, h2⟩, h3, h4⟩ := R
  have tn := T.2.1
  have tz := T.2.2.1
  have b62 : ∀ i, K i ≠ 0 → i < 62 := fun i hi => by
    by_cases e : i < 62
    · exact e
    · exact (hi (tz i (by omega))).elim
  have e1 := ca_ic_rm hi (b62 i hki) hki
  refine ⟨by omega, ca_alone T hi (fun j a b => ca_nc_0 hc j (b62 j b) a b), B, ⟨by omega, by omega⟩, ?_, ?_⟩
  · intro j hj
    by_cases e : j = i
    · rw [e, ca_ups]
    · rw [ca_upn e] at hj ⊢; exact h3 j hj
  · intro j hj hkj
    by_cases e : j = i
    · rw [e, ca_ups] at hkj; exact (hkj rfl).elim
    · rw [ca_upn e] at hkj
      rw [ca_upn e, ca_upn e, ca_upn e]
      exact h4 j hj hkj
/-- a set taken away up to t -/
def ca_dt (D : Nat → Bool) (t j : Nat) : Bool := D j && decide (j < t)
theorem ca_dt_f {D : Nat → Bool} {t : Nat} (h : D t = false) (f : Nat → Nat) : ca_cut (ca_dt D (t + 1)) f = ca_cut (ca_dt D t) f := by
  funext j
  unfold ca_cut
  have : ca_dt D (t + 1) j = ca_dt D t j := by
    unfold ca_dt
    by_cases e : j = t
    · rw [e, h]; rfl
    · have : (j < t + 1) ↔ (j < t) := by omega
      simp [this]
  rw [this]
theorem ca_dt_t {D : Nat → Bool} {t : Nat} (h : D t = true) (f : Nat → Nat) : ca_cut (ca_dt D (t + 1)) f = ca_up (ca_cut (ca_dt D t) f) t 0 := by
  funext j
  unfold ca_cut ca_up
  by_cases e : j = t
  · rw [if_pos e]
    have : ca_dt D (t + 1) j = true := by unfold ca_dt; rw [e, h]; simp
    rw [this]; rfl
  · rw [if_neg e]
    have : ca_dt D (t + 1) j = ca_dt D t j := by
      unfold ca_dt
      have : (j < t + 1) ↔ (j < t) := by omega
      simp [this]
    rw [this]
theorem ca_dt_2 {D : Nat → Bool} (d0 : D 0 = false) (d1 : D 1 = false) (f : Nat → Nat) : ca_cut (ca_dt D 2) f = f := by
  funext j
  refine ca_cut_f ?_
  unfold ca_dt
  by_cases e : j < 2
  · by_cases e2 : j = 0
    · rw [e2, d0]; rfl
    · rw [show j = 1 by omega, d1]; rfl
  · simp [e]
theorem ca_dt_62 {D : Nat → Bool} (h : ∀ j, D j = true → j < 62) (f : Nat → Nat) : ca_cut (ca_dt D 62) f = ca_cut D f := by
  funext j
  unfold ca_cut
  have : ca_dt D 62 j = D j := by
    unfold ca_dt
    cases e : D j with
    | false => rfl
    | true => simp [h j e]
  rw [this]
theorem ca_R_all (R : ca_R K P M C F L U nx ic p m c) {i jc : Nat} {V : Nat → Nat} {D : Nat → Bool} (hi : 2 ≤ i)
    (hD : ∀ j, D j = true ↔ (2 ≤ j ∧ j < 62 ∧ K j ≠ 0 ∧ ca_wn P i 62 j = true)) (B : ca_B (ca_cut D C) F L V) (hj : jc = ca_cn (ca_pr (ca_cut D K)) 62) :
    ca_R (ca_cut D K) (ca_cut D P) (ca_cut D M) (ca_cut D C) F L V nx jc p m c := by
  obtain ⟨T, _, ⟨h1, h2⟩, h3, h4⟩ := R
  obtain ⟨d0, d1, dc⟩ := ca_below T hi hD
  refine ⟨ca_T_cut T d0 d1 dc, B, ⟨hj, ?_⟩, ?_, ?_⟩
  · have : ca_cn (ca_pr (ca_cut D K)) 62 ≤ ca_cn (ca_pr K) 62 := by
      refine ca_cn_mono 62 (fun j _ h => ?_)
      rw [ca_pr_t] at h ⊢
      exact ⟨h.1, (ca_cut_n h.2).2⟩
    omega
  · intro j hj
    cases e : D j with
    | true => exact ca_cut_t e
    | false => rw [ca_cut_f e] at hj ⊢; exact h3 j hj
  · intro j hj hkj
    obtain ⟨e, hk⟩ := ca_cut_n hkj
    rw [ca_cut_f e, ca_cut_f e, ca_cut_f e]
    exact h4 j hj hk
end
/-! arguments -/
def ca_ms (K : Nat → Nat) (v : Int32) : Prop := v < 1 ∨ 61 < v ∨ ∃ i, 1 ≤ i ∧ i < 62 ∧ v = nI i ∧ K i = 0
theorem ca_arg (K : Nat → Nat) (v : Int32) : (∃ i, 1 ≤ i ∧ i < 62 ∧ v = nI i ∧ K i ≠ 0) ∨ ca_ms K v := by
  by_cases h1 : v < 1
  · exact Or.inr (Or.inl h1)
  · by_cases h2 : v ≤ 61
    · have h0 : ¬ v < 0 := by
        intro z
        rw [Int32.lt_iff_toInt_lt] at h1 z
        rw [show (1 : Int32).toInt = 1 by decide] at h1
        rw [show (0 : Int32).toInt = 0 by decide] at z
        omega
      obtain ⟨j, hj, rfl⟩ := nI_of h0
      have a1 : ¬ j < 1 := fun z => h1 (nI_lt (b := 1) z (by decide))
      have a2 : j ≤ 61 := (nI_leI hj (b := 61) (by decide)).mp h2
      by_cases h3 : K j = 0
      · exact Or.inr (Or.inr (Or.inr ⟨j, by omega, by omega, rfl, h3⟩))
      · exact Or.inl ⟨j, by omega, by omega, rfl, h3⟩
    · exact Or.inr (Or.inr (Or.inl (Int32.not_le.mp h2)))
/-- a name or not -/
theorem ca_nam (v : Int32) : (∃ n, n ≤ 255 ∧ v = nI n) ∨ v < 0 ∨ (¬ v < 0 ∧ ¬ v ≤ 255) := by
  by_cases h1 : v < 0
  · exact Or.inr (Or.inl h1)
  · by_cases h2 : v ≤ 255
    · obtain ⟨j, hj, rfl⟩ := nI_of h1
      have a2 : j ≤ 255 := (nI_leI hj (b := 255) (by decide)).mp h2
      exact Or.inl ⟨j, a2, rfl⟩
    · exact Or.inr (Or.inr ⟨h1, h2⟩)
theorem ca_len (v : Int32) : (∃ n, 1 ≤ n ∧ n ≤ 32 ∧ v = nI n) ∨ v < 1 ∨ (¬ v < 1 ∧ ¬ v ≤ 32) := by
  by_cases h1 : v < 1
  · exact Or.inr (Or.inl h1)
  · by_cases h2 : v ≤ 32
    · have h0 : ¬ v < 0 := by
        intro z
        rw [Int32.lt_iff_toInt_lt] at h1 z
        rw [show (1 : Int32).toInt = 1 by decide] at h1
        rw [show (0 : Int32).toInt = 0 by decide] at z
        omega
      obtain ⟨j, hj, rfl⟩ := nI_of h0
      have a1 : ¬ j < 1 := fun z => h1 (nI_lt (b := 1) z (by decide))
      have a2 : j ≤ 32 := (nI_leI hj (b := 32) (by decide)).mp h2
      exact Or.inl ⟨j, by omega, a2, rfl⟩
    · exact Or.inr (Or.inr ⟨h1, h2⟩)
end
end
section
section
/-! numbers behind the walks -/
theorem ca_ec (f : Nat → Nat) {i : Nat} (h : i < 2 ^ 31) : ca_en f (nI i).toNatClampNeg = nI (f i) := by
  unfold ca_en
  rw [nI_clamp h]
theorem ca_rc {a : Nat → Int32} {i : Nat} {x : Int32} (h : i < 2 ^ 31) (e : a i = x) : a (nI i).toNatClampNeg = x := by
  rw [nI_clamp h, e]
theorem ca_n10 : ¬ (1 : Int32) = 0 := by decide
theorem ca_g61 {i : Nat} (h : i < 62) : ¬ (61 : Int32) < nI i := nI_nlt (a := 61) (b := i) (by omega) (by decide)
theorem ca_g62 : (61 : Int32) < nI 62 := by decide
theorem ca_i62 {i : Nat} (h : i < 62) : vp_in (nI i) 62 := vp_in_nI h (by decide)
theorem ca_cn_2 {p : Nat → Bool} (h0 : p 0 = false) (h1 : p 1 = false) : ca_cn p 2 = 0 := by
  rw [ca_cn_f (p := p) (n := 1) h1, ca_cn_f (p := p) (n := 0) h0]
  rfl
theorem ca_b0 : vp_nar .boolean 0 = 0 := by decide
theorem ca_b1 : vp_nar .boolean 1 = 1 := by decide
section
variable {K P M : Nat → Nat} {nn : Nat}
theorem ca_Tb (T : ca_T K P M nn) (i : Nat) : K i ≤ 2 ∧ P i < 62 ∧ M i ≤ 255 := T.2.2.2.1 i
theorem ca_T62 (T : ca_T K P M nn) {i : Nat} (h : K i ≠ 0) : 1 ≤ i ∧ i < 62 := by
  obtain ⟨⟨t0, _⟩, tn, tz, _⟩ := T
  refine ⟨?_, ?_⟩
  · by_cases e : i = 0
    · rw [e] at h; exact (h t0).elim
    · omega
  · by_cases e : i < 62
    · exact e
    · exact (h (tz i (by omega))).elim
end
/-! X: the small methods -/
section
variable {nx ic : Int32} {K P M C F L U : Nat → Nat} {dm : Nat → Int32} {nn : Nat}
theorem xa_there_t (T : ca_T K P M nn) {post : Int32 → Prop} {i : Nat} (h1 : 1 ≤ i) (h2 : i < 62) (hk : K i ≠ 0) (hp : post 1) : wpX_isThere post (nx, ic, ca_en K, ca_en P, ca_en M, ca_en C, ca_en F, ca_en L, ca_en U, dm) (nI i) :=
  br_f (nI_nlt (b := 1) h1 (by omega)) (br_f (ca_g61 h2) ⟨ca_i62 h2, pk_eq (K i) 0 (fun e => (hk e).elim) (fun _ => hp) (ca_ec K (by omega)) rfl (by have := ca_Tb T i; omega) (by omega)⟩)
theorem xa_there_f {post : Int32 → Prop} {v : Int32} (h : ca_ms K v) (hp : post 0) : wpX_isThere post (nx, ic, ca_en K, ca_en P, ca_en M, ca_en C, ca_en F, ca_en L, ca_en U, dm) v := by
  by_cases a : v < 1
  · exact br_t a hp
  · refine br_f a ?_
    by_cases b : 61 < v
    · exact br_t b hp
    · refine br_f b ?_
      rcases h with h | h | ⟨i, h1, h2, rfl, h3⟩
      · exact (a h).elim
      · exact (b h).elim
      · exact ⟨ca_i62 h2, br_t (by rw [ca_ec K (by omega), h3]; rfl) hp⟩
theorem xa_rfo_m {post : Int32 → Prop} {v : Int32} (h : ca_ms K v) (hp : post (-1)) : wpX_refusalAsFolder post (nx, ic, ca_en K, ca_en P, ca_en M, ca_en C, ca_en F, ca_en L, ca_en U, dm) v := by
  unfold wpX_refusalAsFolder
  exact xa_there_f h (br_t rfl hp)
theorem xa_rfo_t (T : ca_T K P M nn) {post : Int32 → Prop} {i : Nat} (h2 : i < 62) (hk : K i = 2) (hp : post 0) : wpX_refusalAsFolder post (nx, ic, ca_en K, ca_en P, ca_en M, ca_en C, ca_en F, ca_en L, ca_en U, dm) (nI i) := by
  unfold wpX_refusalAsFolder
  exact xa_there_t T (ca_T62 T (by omega)).1 h2 (by omega) (br_f ca_n10 ⟨ca_i62 h2, br_t (by rw [ca_ec K (by omega), hk]; rfl) hp⟩)
theorem xa_rfo_n (T : ca_T K P M nn) {post : Int32 → Prop} {i : Nat} (h2 : i < 62) (hk : K i = 1) (hp : post (-2)) : wpX_refusalAsFolder post (nx, ic, ca_en K, ca_en P, ca_en M, ca_en C, ca_en F, ca_en L, ca_en U, dm) (nI i) := by
  unfold wpX_refusalAsFolder
  exact xa_there_t T (ca_T62 T (by omega)).1 h2 (by omega) (br_f ca_n10 ⟨ca_i62 h2, br_f (by rw [ca_ec K (by omega), hk]; decide) hp⟩)
theorem xa_rfi_m {post : Int32 → Prop} {v : Int32} (h : ca_ms K v) (hp : post (-1)) : wpX_refusalAsFile post (nx, ic, ca_en K, ca_en P, ca_en M, ca_en C, ca_en F, ca_en L, ca_en U, dm) v := by
  unfold wpX_refusalAsFile
  exact xa_there_f h (br_t rfl hp)
theorem xa_rfi_t (T : ca_T K P M nn) {post : Int32 → Prop} {i : Nat} (h2 : i < 62) (hk : K i = 1) (hp : post 0) : wpX_refusalAsFile post (nx, ic, ca_en K, ca_en P, ca_en M, ca_en C, ca_en F, ca_en L, ca_en U, dm) (nI i) := by
  unfold wpX_refusalAsFile
  exact xa_there_t T (ca_T62 T (by omega)).1 h2 (by omega) (br_f ca_n10 ⟨ca_i62 h2, br_t (by rw [ca_ec K (by omega), hk]; rfl) hp⟩)
theorem xa_rfi_n (T : ca_T K P M nn) {post : Int32 → Prop} {i : Nat} (h2 : i < 62) (hk : K i = 2) (hp : post (-9)) : wpX_refusalAsFile post (nx, ic, ca_en K, ca_en P, ca_en M, ca_en C, ca_en F, ca_en L, ca_en U, dm) (nI i) := by
  unfold wpX_refusalAsFile
  exact xa_there_t T (ca_T62 T (by omega)).1 h2 (by omega) (br_f ca_n10 ⟨ca_i62 h2, br_f (by rw [ca_ec K (by omega), hk]; decide) hp⟩)
theorem xa_rnr_m {post : Int32 → Prop} {v : Int32} (h : ca_ms K v) (hp : post (-1)) : wpX_refusalAsNonRoot post (nx, ic, ca_en K, ca_en P, ca_en M, ca_en C, ca_en F, ca_en L, ca_en U, dm) v := by
  unfold wpX_refusalAsNonRoot
  exact xa_there_f h (br_t rfl hp)
theorem xa_rnr_r (T : ca_T K P M nn) {post : Int32 → Prop} (hp : post (-6)) : wpX_refusalAsNonRoot post (nx, ic, ca_en K, ca_en P, ca_en M, ca_en C, ca_en F, ca_en L, ca_en U, dm) (nI 1) := by
  unfold wpX_refusalAsNonRoot
  exact xa_there_t T (by omega) (by omega) (by have := T.1.2.1; omega) (br_f ca_n10 (br_t rfl hp))
theorem xa_rnr_t (T : ca_T K P M nn) {post : Int32 → Prop} {i : Nat} (h1 : 2 ≤ i) (h2 : i < 62) (hk : K i ≠ 0) (hp : post 0) : wpX_refusalAsNonRoot post (nx, ic, ca_en K, ca_en P, ca_en M, ca_en C, ca_en F, ca_en L, ca_en U, dm) (nI i) := by
  unfold wpX_refusalAsNonRoot
  exact xa_there_t T (by omega) h2 hk (br_f ca_n10 (pk_eq i 1 (fun e => by omega) (fun _ => hp)))
theorem xa_rpl_m {post : Int32 → Prop} {v w : Int32} (h : ca_ms K v) (hp : post (-1)) : wpX_refusalOfPlace post (nx, ic, ca_en K, ca_en P, ca_en M, ca_en C, ca_en F, ca_en L, ca_en U, dm) v w := by
  unfold wpX_refusalOfPlace
  exact xa_rfo_m h (br_f (by decide) hp)
theorem xa_rpl_n (T : ca_T K P M nn) {post : Int32 → Prop} {i : Nat} {w : Int32} (h2 : i < 62) (hk : K i = 1) (hp : post (-2)) : wpX_refusalOfPlace post (nx, ic, ca_en K, ca_en P, ca_en M, ca_en C, ca_en F, ca_en L, ca_en U, dm) (nI i) w := by
  unfold wpX_refusalOfPlace
  exact xa_rfo_n T h2 hk (br_f (by decide) hp)
theorem xa_rpl_b (T : ca_T K P M nn) {post : Int32 → Prop} {i : Nat} {w : Int32} (h2 : i < 62) (hk : K i = 2) (hw : w < 0 ∨ (¬ w < 0 ∧ ¬ w ≤ 255)) (hp : post (-3)) : wpX_refusalOfPlace post (nx, ic, ca_en K, ca_en P, ca_en M, ca_en C, ca_en F, ca_en L, ca_en U, dm) (nI i) w := by
  unfold wpX_refusalOfPlace
  exact xa_rfo_t T h2 hk (br_t rfl (by
    rcases hw with a | ⟨a, b⟩
    · exact br_t a hp
    · exact br_f a (br_t (Int32.not_le.mp b) hp)))
theorem xa_rpl_t (T : ca_T K P M nn) {post : Int32 → Prop} {i n : Nat} (h2 : i < 62) (hk : K i = 2) (hn : n ≤ 255) (hp : post 0) : wpX_refusalOfPlace post (nx, ic, ca_en K, ca_en P, ca_en M, ca_en C, ca_en F, ca_en L, ca_en U, dm) (nI i) (nI n) := by
  unfold wpX_refusalOfPlace
  exact xa_rfo_t T h2 hk (br_t rfl (br_f (nI_pos (by omega)) (br_f (nI_nlt (a := 255) (b := n) hn (by decide)) hp)))
theorem xa_kid (T : ca_T K P M nn) {post : Int32 → Prop} {i f : Nat} (hi : i < 62) (hf : f < 62) (h0 : ¬ (K i ≠ 0 ∧ P i = f) → post 0) (h1 : K i ≠ 0 → P i = f → post 1) :
    wpX_isChild post (nx, ic, ca_en K, ca_en P, ca_en M, ca_en C, ca_en F, ca_en L, ca_en U, dm) (nI i) (nI f) :=
  ⟨ca_i62 hi, pk_eq (K i) 0 (fun e => h0 (by omega))
    (fun e => ⟨ca_i62 hi, pk_eq (P i) f (fun e2 => h1 e e2) (fun e2 => h0 (by omega)) (ca_ec P (by omega)) rfl (by have := ca_Tb T i; omega) (by omega)⟩)
    (ca_ec K (by omega)) rfl (by have := ca_Tb T i; omega) (by omega)⟩
theorem xa_named (T : ca_T K P M nn) {post : Int32 → Prop} {f n : Nat} (hf : f < 62) (hn : n ≤ 255) (hp : ∀ r, ca_lk K P M f n r → post (nI r)) :
    wpX_childNamed post (nx, ic, ca_en K, ca_en P, ca_en M, ca_en C, ca_en F, ca_en L, ca_en U, dm) (nI f) (nI n) :=
  pk_loop (fun k i (_ : Unit) => wX_childNamed_2 post (nI f) (nI n) nx ic (ca_en K) (ca_en P) (ca_en M) (ca_en C) (ca_en F) (ca_en L) (ca_en U) dm k (nI i)) (fun i _ => 2 ≤ i ∧ ∀ j, j < i → ca_ch K P f j → M j ≠ n) 62 2 () (by omega)
    ⟨by omega, fun j hj h => by have := h.1; omega⟩
    (fun k s I => br_t ca_g62 (hp 0 (Or.inl ⟨rfl, fun j hj => I.2 j hj.2.1 hj⟩)))
    (fun k i s hi I go => br_f (ca_g61 hi) (xa_kid T hi hf
      (fun h => br_t rfl (nm_r (nI_1 i) (go () ⟨by omega, fun j hj hc => by
        by_cases e : j = i
        · rw [e] at hc; exact (h ⟨hc.2.2.1, hc.2.2.2⟩).elim
        · exact I.2 j (by omega) hc⟩)))
      (fun hk hq => br_f ca_n10 ⟨ca_i62 hi, pk_eq (M i) n (fun e => hp i (Or.inr ⟨⟨I.1, hi, hk, hq⟩, e⟩))
        (fun e => nm_r (nI_1 i) (go () ⟨by omega, fun j hj hc => by
          by_cases e2 : j = i
          · rw [e2]; exact e
          · exact I.2 j (by omega) hc⟩))
        (ca_ec M (by omega)) rfl (by have := ca_Tb T i; omega) (by omega)⟩)))
theorem xa_below (T : ca_T K P M nn) {post : Int32 → Prop} {f n : Nat} (hf : f < 62) (hn : n ≤ 256) (hp : post (nI (ca_rk K P M f n))) :
    wpX_childrenNamedBelow post (nx, ic, ca_en K, ca_en P, ca_en M, ca_en C, ca_en F, ca_en L, ca_en U, dm) (nI f) (nI n) :=
  pk_loop (fun k i (s : Nat) => wX_childrenNamedBelow_5 post (nI f) (nI n) nx ic (ca_en K) (ca_en P) (ca_en M) (ca_en C) (ca_en F) (ca_en L) (ca_en U) dm k (nI s) (nI i)) (fun i s => 2 ≤ i ∧ s = ca_cn (ca_cb K P M f n) i) 62 2 0 (by omega)
    ⟨by omega, (ca_cn_2 (ca_cb_f.mpr (by omega)) (ca_cb_f.mpr (by omega))).symm⟩
    (fun k s I => br_t ca_g62 (by rw [I.2]; exact hp))
    (fun k i s hi I go => br_f (ca_g61 hi) (xa_kid T hi hf
      (fun h => br_t rfl (nm_r (nI_1 i) (go s ⟨by omega, by
        rw [ca_cn_f (p := ca_cb K P M f n) (n := i) (ca_cb_f.mpr (fun z => h ⟨z.2.1, z.2.2.1⟩))]; exact I.2⟩)))
      (fun hk hq => br_f ca_n10 ⟨ca_i62 hi, pk_le n (M i)
        (fun e => nm_r (nI_1 i) (go s ⟨by omega, by
          rw [ca_cn_f (p := ca_cb K P M f n) (n := i) (ca_cb_f.mpr (fun z => by omega))]; exact I.2⟩))
        (fun e => nm_r (nI_1 s) (nm_r (nI_1 i) (go (s + 1) ⟨by omega, by
          rw [ca_cn_t (p := ca_cb K P M f n) (n := i) (ca_cb_t.mpr ⟨I.1, hk, hq, e⟩), I.2]⟩)))
        rfl (ca_ec M (by omega)) (by omega) (by have := ca_Tb T i; omega)⟩)))
theorem xa_count (T : ca_T K P M nn) {post : Int32 → Prop} {f : Nat} (hf : f < 62) (hp : post (nI (ca_cn (ca_nc K P f) 62))) : wpX_childCount post (nx, ic, ca_en K, ca_en P, ca_en M, ca_en C, ca_en F, ca_en L, ca_en U, dm) (nI f) := by
  unfold wpX_childCount
  exact xa_below (n := 256) T hf (by omega) (by rw [ca_rk_all T]; exact hp)
theorem xa_within (T : ca_T K P M nn) {post : Int32 → Prop} {x f : Nat} (hx : K x ≠ 0) (hf : 2 ≤ f) (hf2 : f < 62) (h1 : ca_wn P f 62 x = true → post 1) (h0 : ca_wn P f 62 x = false → post 0) :
    wpX_isWithin post (nx, ic, ca_en K, ca_en P, ca_en M, ca_en C, ca_en F, ca_en L, ca_en U, dm) (nI x) (nI f) :=
  pk_loop (fun k i (s : Nat) => wX_isWithin_5 post (nI f) nx ic (ca_en K) (ca_en P) (ca_en M) (ca_en C) (ca_en F) (ca_en L) (ca_en U) dm k (nI s) (nI i))
    (fun i s => s < 62 ∧ ((K s ≠ 0 ∧ ca_wn P f (62 - i) s = ca_wn P f 62 x) ∨ (s = 0 ∧ ca_wn P f 62 x = false))) 62 0 x (by omega)
    ⟨(ca_T62 T hx).2, Or.inl ⟨hx, rfl⟩⟩
    (fun k s I => br_t (by decide) (h0 (by
      rcases I.2 with a | a
      · rw [← a.2]; rfl
      · exact a.2)))
    (fun k i s hi I go => br_f (nI_ge (b := 62) hi (by decide)) (by
      rcases I.2 with ⟨a, b⟩ | ⟨a, b⟩
      · have hs := ca_T62 T a
        obtain ⟨d, hd⟩ : ∃ d, 62 - i = d + 1 := ⟨61 - i, by omega⟩
        have hd2 : 62 - (i + 1) = d := by omega
        rw [hd] at b
        simp only [ca_wn] at b
        refine br_f (nI_ne0 (by omega) (by omega)) (pk_eq s f (fun e => ?_) (fun e => ⟨ca_i62 hs.2, nm_r (ca_ec P (by omega)) (nm_r (nI_1 i) (go (P s) ⟨(ca_Tb T s).2.1, ?_⟩))⟩))
        · rw [if_pos e] at b
          exact h1 b.symm
        · rw [if_neg e] at b
          by_cases e1 : s = 1
          · rw [if_pos e1] at b
            exact Or.inr ⟨by rw [e1]; exact T.1.2.2.2, b.symm⟩
          · rw [if_neg e1] at b
            have := T.2.2.2.2.1 s (by omega) a
            exact Or.inl ⟨by omega, by rw [hd2]; exact b⟩
      · exact br_t (by rw [a]; rfl) (h0 b)))
end
end
end
section
section
variable {nx ic : Int32} {K P M C F L U : Nat → Nat} {dm : Nat → Int32} {nn : Nat}
theorem xa_set {post : SX → Prop} {a l x : Nat} (hx : x = 0 ∨ x = 1) (h : a + l ≤ 96) (hp : post (nx, ic, ca_en K, ca_en P, ca_en M, ca_en C, ca_en F, ca_en L, ca_en (ca_rg U a l x), dm)) : wpX_setUsed post (nx, ic, ca_en K, ca_en P, ca_en M, ca_en C, ca_en F, ca_en L, ca_en U, dm) (nI a) (nI l) (nI x) :=
  pk_loop (fun k i (s : Nat → Int32) => wX_setUsed_3 post (nI a) (nI l) (nI x) nx ic k (nI i) (ca_en K) (ca_en P) (ca_en M) (ca_en C) (ca_en F) (ca_en L) s dm) (fun i s => s = ca_en (ca_rg U a i x)) l 0 (ca_en U) (by omega)
    (by rw [ca_rg_0])
    (fun k s I => br_t (nI_le (Nat.le_refl l) (by omega)) (by rw [I]; exact hp))
    (fun k i s hi I go => br_f (nI_ge hi (by omega)) ⟨by rw [nI_add]; exact vp_in_nI (by omega) (by decide), nm_e (nm_r (nI_1 i) (go _ (by
      rw [I, nI_add, nI_clamp (by omega)]
      have hb : vp_nar .boolean (nI x) = nI x := by
        rcases hx with e | e
        · rw [e]; exact ca_b0
        · rw [e]; exact ca_b1
      rw [hb, ca_upe, ca_rg_s])))⟩)
theorem xa_drop (B : ca_B C F L U) {post : Int32 → SX → Prop} {i q : Nat} (hi : i < 62) (hc : C i = q + 1) (hp : post (nI (L (i * 6 + q))) (nx, ic, ca_en K, ca_en P, ca_en M, ca_en (ca_up C i q), ca_en F, ca_en L, ca_en (ca_rg U (F (i * 6 + q)) (L (i * 6 + q)) 0), dm)) :
    wpX_dropLastExtent post (nx, ic, ca_en K, ca_en P, ca_en M, ca_en C, ca_en F, ca_en L, ca_en U, dm) (nI i) := by
  have h6 := B.1 i
  have hact : ca_A C (i * 6 + q) := by
    unfold ca_A
    rw [show (i * 6 + q) / 6 = i by omega]
    omega
  have hl := B.2.1 _ hact
  have e1 : upd (ca_en C) (nI i).toNatClampNeg (ca_en C (nI i).toNatClampNeg - 1) = ca_en (ca_up C i q) := by
    rw [nI_clamp (by omega)]
    refine ca_upi C i q _ ?_
    unfold ca_en
    rw [hc, nI_pred]
  have e2 : nI i * 6 + ca_en (ca_up C i q) (nI i).toNatClampNeg = nI (i * 6 + q) := by
    rw [ca_ec _ (by omega), ca_ups, show (6 : Int32) = nI 6 from rfl, pk_mul, nI_add]
  have hs : vp_in (nI (i * 6 + q)) 372 := vp_in_nI (by omega) (by decide)
  refine ⟨ca_i62 hi, ca_i62 hi, nm_r e1 ⟨ca_i62 hi, nm_r e2 ⟨hs, hs, ?_⟩⟩⟩
  rw [ca_ec F (by omega), ca_ec L (by omega)]
  refine xa_set (x := 0) (Or.inl rfl) hl.2.2 ⟨hs, ?_⟩
  rw [ca_ec L (by omega)]
  exact hp
theorem xa_discard (B : ca_B C F L U) {post : SX → Prop} {i : Nat} (hi : i < 62)
    (hp : ∀ V, ca_B (ca_up C i 0) F L V → post (nx, (ic - 1), ca_en (ca_up K i 0), ca_en (ca_up P i 0), ca_en (ca_up M i 0), ca_en (ca_up C i 0), ca_en F, ca_en L, ca_en V, dm)) :
    wpX_discard post (nx, ic, ca_en K, ca_en P, ca_en M, ca_en C, ca_en F, ca_en L, ca_en U, dm) (nI i) := by
  have h6 := B.1 i
  have e0 : ca_up C i (C i - 0) = C := by
    funext j
    unfold ca_up
    split
    · next e => rw [e]; rfl
    · rfl
  have ez : ∀ f : Nat → Nat, upd (ca_en f) (nI i).toNatClampNeg 0 = ca_en (ca_up f i 0) := by
    intro f
    rw [nI_clamp (by omega)]
    exact ca_upi f i 0 _ rfl
  refine pk_loop (fun k t (s : (Nat → Int32) × (Nat → Int32)) => wX_discard_2 post (nI i) k (nI t) nx ic (ca_en K) (ca_en P) (ca_en M) s.1 (ca_en F) (ca_en L) s.2 dm)
    (fun t s => ∃ V, s = (ca_en (ca_up C i (C i - t)), ca_en V) ∧ ca_B (ca_up C i (C i - t)) F L V) 6 0 (ca_en C, ca_en U) (by omega) ?_ ?_ ?_
  · exact ⟨U, by rw [e0], by rw [e0]; exact B⟩
  · intro k s I
    obtain ⟨V, rfl, hB⟩ := I
    rw [show C i - 6 = 0 by omega] at hB ⊢
    exact br_t (by decide) ⟨ca_i62 hi, nm_r (ez K) ⟨ca_i62 hi, nm_r (ez P) ⟨ca_i62 hi, nm_r (ez M) (nm_e (hp V hB))⟩⟩⟩
  · intro k t s ht I go
    obtain ⟨V, rfl, hB⟩ := I
    refine br_f (nI_ge (b := 6) ht (by decide)) ⟨ca_i62 hi, pk_le (C i - t) 0 (fun e => ?_) (fun e => ?_) (by dsimp only; rw [ca_ec _ (by omega), ca_ups]) rfl (by omega) (by omega)⟩
    · refine nm_r (nI_1 t) (go _ ⟨V, ?_, ?_⟩)
      · rw [show C i - (t + 1) = C i - t by omega]
      · rw [show C i - (t + 1) = C i - t by omega]; exact hB
    · obtain ⟨q, hq⟩ : ∃ q, C i - t = q + 1 := ⟨C i - t - 1, by omega⟩
      have hq2 : C i - (t + 1) = q := by omega
      have eu : ca_up (ca_up C i (C i - t)) i q = ca_up C i q := by
        funext j
        unfold ca_up
        split <;> rfl
      refine xa_drop hB hi (q := q) (by rw [ca_ups]; exact hq) ?_
      have hB2 := ca_B_dn hB (i := i) (c := q) (by rw [ca_ups]; exact hq)
      rw [eu] at hB2 ⊢
      exact nm_r (nI_1 t) (go (ca_en (ca_up C i q), ca_en (ca_rg V (F (i * 6 + q)) (L (i * 6 + q)) 0)) ⟨ca_rg V (F (i * 6 + q)) (L (i * 6 + q)) 0, by rw [hq2], by rw [hq2]; exact hB2⟩)
theorem xa_run {post : Int32 → Prop} {l : Nat} (l1 : 1 ≤ l) (l2 : l ≤ 32) (b1 : ∀ b, U b ≤ 1) (h1 : ∀ a, ca_ff U l a → (∀ b, b < a → ¬ ca_ff U l b) → post (nI a)) (h0 : (∀ b, ¬ ca_ff U l b) → post (-11)) :
    wpX_firstFreeRun post (nx, ic, ca_en K, ca_en P, ca_en M, ca_en C, ca_en F, ca_en L, ca_en U, dm) (nI l) :=
  pk_loop (fun k t (s : Nat) => wX_firstFreeRun_4 post (nI l) nx ic (ca_en K) (ca_en P) (ca_en M) (ca_en C) (ca_en F) (ca_en L) (ca_en U) dm k (nI s) (nI t)) (fun t s => ca_ru U l t s) 96 0 0 (by omega)
    (ca_ru0 l1)
    (fun k s I => br_t (by decide) (h0 (ca_ru_n I)))
    (fun k t s ht I go => br_f (nI_ge (b := 96) ht (by decide)) ⟨vp_in_nI ht (by decide), pk_eq (U t) 0
      (fun e => pk_eq (s + 1) l
        (fun e2 => by
          obtain ⟨g1, g2, g3⟩ := ca_ru_e I e e2 ht
          have ev : nI t - nI l + 1 = nI (t + 1 - l) := by
            have : nI t - nI l + 1 = nI t + 1 - nI l := by grind
            rw [this, nI_1, pk_sub g1]
          rw [ev]
          exact h1 _ g2 g3)
        (fun e2 => nm_r (nI_1 t) (by
          rw [nI_1]
          exact go (s + 1) (ca_ru_f I e e2)))
        (nI_1 s) rfl (by have := I.1; omega) (by omega))
      (fun e => pk_eq 0 l (fun e2 => by omega) (fun e2 => nm_r (nI_1 t) (go 0 (ca_ru_u I e))) rfl rfl (by omega) (by omega))
      (ca_ec U (by omega)) rfl (by have := b1 t; omega) (by omega)⟩)
theorem xa_add (B : ca_B C F L U) {post : SX → Prop} {i a l : Nat} (hi : i < 62) (h6 : C i < 6) (al : a + l ≤ 96)
    (hp : post (nx, ic, ca_en K, ca_en P, ca_en M, ca_en (ca_up C i (C i + 1)), ca_en (ca_up F (i * 6 + C i) a), ca_en (ca_up L (i * 6 + C i) l), ca_en (ca_rg U a l 1), dm)) : wpX_addExtent post (nx, ic, ca_en K, ca_en P, ca_en M, ca_en C, ca_en F, ca_en L, ca_en U, dm) (nI i) (nI a) (nI l) := by
  have e2 : nI i * 6 + ca_en C (nI i).toNatClampNeg = nI (i * 6 + C i) := by
    rw [ca_ec _ (by omega), show (6 : Int32) = nI 6 from rfl, pk_mul, nI_add]
  have hs : vp_in (nI (i * 6 + C i)) 372 := vp_in_nI (by omega) (by decide)
  have eF : ∀ (f : Nat → Nat) (x : Nat), upd (ca_en f) (nI (i * 6 + C i)).toNatClampNeg (nI x) = ca_en (ca_up f (i * 6 + C i) x) := by
    intro f x
    rw [nI_clamp (by omega), ca_upe]
  have e1 : upd (ca_en C) (nI i).toNatClampNeg (ca_en C (nI i).toNatClampNeg + 1) = ca_en (ca_up C i (C i + 1)) := by
    rw [nI_clamp (by omega)]
    refine ca_upi C i _ _ ?_
    unfold ca_en
    rw [nI_1]
  exact ⟨ca_i62 hi, nm_r e2 ⟨hs, nm_r (eF F a) ⟨hs, nm_r (eF L l) ⟨ca_i62 hi, ca_i62 hi, nm_r e1 (xa_set (x := 1) (Or.inr rfl) al hp)⟩⟩⟩⟩
theorem xa_free {post : Int32 → Prop} (b1 : ∀ b, U b ≤ 1) (hp : post (nI (ca_cn (fun b => decide (U b = 0)) 96))) : wpX_free post (nx, ic, ca_en K, ca_en P, ca_en M, ca_en C, ca_en F, ca_en L, ca_en U, dm) :=
  pk_loop (fun k t (s : Nat) => wX_free_4 post nx ic (ca_en K) (ca_en P) (ca_en M) (ca_en C) (ca_en F) (ca_en L) (ca_en U) dm k (nI s) (nI t)) (fun t s => s = ca_cn (fun b => decide (U b = 0)) t) 96 0 0 (by omega)
    rfl
    (fun k s I => br_t (by decide) (by rw [I]; exact hp))
    (fun k t s ht I go => br_f (nI_ge (b := 96) ht (by decide)) ⟨vp_in_nI ht (by decide), pk_eq (U t) 0
      (fun e => nm_r (nI_1 s) (nm_r (nI_1 t) (go (s + 1) (by rw [ca_cn_t (n := t) (by simp [e]), I]))))
      (fun e => nm_r (nI_1 t) (go s (by rw [ca_cn_f (n := t) (by simp [e])]; exact I)))
      (ca_ec U (by omega)) rfl (by have := b1 t; omega) (by omega)⟩)
/-! sums of lengths, a block by its index -/
def ca_sm (L : Nat → Nat) (e : Nat) : Nat → Nat
  | 0 => 0
  | j + 1 => ca_sm L e j + L (e + j)
def ca_ba (F L : Nat → Nat) (e : Nat) : Nat → Nat → Nat → Int32
  | 0, _, _ => -12
  | d + 1, j, x => if L (e + j) ≤ x then ca_ba F L e d (j + 1) (x - L (e + j)) else nI (F (e + j) + x)
theorem xa_blocks (B : ca_B C F L U) {post : Int32 → Prop} {i : Nat} (hi : i < 62) (hp : post (nI (ca_sm L (i * 6) (C i)))) : ∃ n, wX_blocks_17 post (nI i) nx ic (ca_en K) (ca_en P) (ca_en M) (ca_en C) (ca_en F) (ca_en L) (ca_en U) dm n 0 0 :=
  pk_loop (fun k j (s : Nat) => wX_blocks_17 post (nI i) nx ic (ca_en K) (ca_en P) (ca_en M) (ca_en C) (ca_en F) (ca_en L) (ca_en U) dm k (nI s) (nI j)) (fun j s => s = ca_sm L (i * 6) j) (C i) 0 0 (by omega)
    rfl
    (fun k s I => ⟨ca_i62 hi, br_t (by rw [ca_ec C (by omega)]; exact nI_le (Nat.le_refl _) (by have := B.1 i; omega)) (by rw [I]; exact hp)⟩)
    (fun k j s hj I go => by
      have h6 := B.1 i
      have e2 : nI i * 6 + nI j = nI (i * 6 + j) := by
        rw [show (6 : Int32) = nI 6 from rfl, pk_mul, nI_add]
      refine ⟨ca_i62 hi, br_f (by rw [ca_ec C (by omega)]; exact nI_ge hj (by omega)) ⟨by rw [e2]; exact vp_in_nI (by omega) (by decide), nm_r (e' := nI (s + L (i * 6 + j))) ?_ (nm_r (nI_1 j) (go _ ?_))⟩⟩
      · rw [e2, ca_ec L (by omega), nI_add]
      · rw [I]; rfl)
theorem xa_blockAt (B : ca_B C F L U) {post : Int32 → Prop} {i x : Nat} (hi : i < 62) (hx : x < 2 ^ 31) (hp : post (ca_ba F L (i * 6) (C i) 0 x)) : ∃ n, wX_blockAt_25 post (nI i) nx ic (ca_en K) (ca_en P) (ca_en M) (ca_en C) (ca_en F) (ca_en L) (ca_en U) dm n (nI x) 0 :=
  pk_loop (fun k j (s : Nat) => wX_blockAt_25 post (nI i) nx ic (ca_en K) (ca_en P) (ca_en M) (ca_en C) (ca_en F) (ca_en L) (ca_en U) dm k (nI s) (nI j)) (fun j s => s < 2 ^ 31 ∧ ca_ba F L (i * 6) (C i - j) j s = ca_ba F L (i * 6) (C i) 0 x) (C i) 0 x (by omega)
    ⟨hx, rfl⟩
    (fun k s I => ⟨ca_i62 hi, br_t (by rw [ca_ec C (by omega)]; exact nI_le (Nat.le_refl _) (by have := B.1 i; omega)) (by
      have h := I.2
      rw [Nat.sub_self] at h
      rw [← h] at hp
      exact hp)⟩)
    (fun k j s hj I go => by
      have h6 := B.1 i
      have e2 : nI i * 6 + nI j = nI (i * 6 + j) := by
        rw [show (6 : Int32) = nI 6 from rfl, pk_mul, nI_add]
      have hl := B.2.1 (i * 6 + j) (by unfold ca_A; rw [show (i * 6 + j) / 6 = i by omega]; omega)
      have hs : vp_in (nI (i * 6 + j)) 372 := vp_in_nI (by omega) (by decide)
      have hI := I.2
      have hI1 := I.1
      rw [show C i - j = (C i - (j + 1)) + 1 by omega] at hI
      simp only [ca_ba] at hI
      refine ⟨ca_i62 hi, br_f (by rw [ca_ec C (by omega)]; exact nI_ge hj (by omega)) (nm_r e2 ⟨hs, pk_le (L (i * 6 + j)) s (fun e => ⟨hs, nm_r (e' := nI (s - L (i * 6 + j))) ?_ (nm_r (nI_1 j) (go _ ⟨by omega, ?_⟩))⟩) (fun e => ⟨hs, ?_⟩) (ca_ec L (by omega)) rfl (by omega) (by omega)⟩)⟩
      · rw [ca_ec L (by omega), pk_sub e]
      · rw [if_pos e] at hI; exact hI
      · rw [if_neg (by omega)] at hI
        rw [ca_ec F (by omega), nI_add, hI]
        exact hp)
end
end
section
section
/-- the doomed -/
def ca_dm (K P : Nat → Nat) (f j : Nat) : Bool := decide (2 ≤ j) && decide (j < 62) && decide (K j ≠ 0) && ca_wn P f 62 j
theorem ca_dm_t {K P : Nat → Nat} {f : Nat} : ∀ j, ca_dm K P f j = true ↔ (2 ≤ j ∧ j < 62 ∧ K j ≠ 0 ∧ ca_wn P f 62 j = true) := by
  intro j
  simp [ca_dm, and_assoc]
theorem ca_dm_f {K P : Nat → Nat} {f j : Nat} (h : ¬ (2 ≤ j ∧ j < 62 ∧ K j ≠ 0 ∧ ca_wn P f 62 j = true)) : ca_dm K P f j = false := by
  cases e : ca_dm K P f j with
  | true => exact (h ((ca_dm_t j).mp e)).elim
  | false => rfl
/-- a boolean as it is stored -/
def ca_bi (b : Bool) : Int32 := if b = true then 1 else 0
theorem ca_bi_t {b : Bool} (h : b = true) : ca_bi b = 1 := by rw [h]; rfl
theorem ca_bi_f {b : Bool} (h : b = false) : ca_bi b = 0 := by rw [h]; rfl
/-- the marks up to t -/
def ca_mk (D : Nat → Bool) (t : Nat) (s : Nat → Int32) : Prop := ∀ j, 2 ≤ j → j < t → s j = ca_bi (D j)
theorem ca_mk_s {D : Nat → Bool} {t : Nat} {s : Nat → Int32} {x : Int32} (h : ca_mk D t s) (hx : x = ca_bi (D t)) : ca_mk D (t + 1) (upd s t x) := by
  intro j h1 h2
  by_cases e : j = t
  · rw [e, pk_us]; exact hx
  · rw [pk_un e]; exact h j h1 (by omega)
section
variable {nx ic : Int32} {K P M C F L U : Nat → Nat} {dm : Nat → Int32} {nn : Nat}
theorem xa_mark (T : ca_T K P M nn) {post : SX → Prop} {f : Nat} (hf : 2 ≤ f) (hf2 : f < 62) (hp : ∀ s, ca_mk (ca_dm K P f) 62 s → post (nx, ic, ca_en K, ca_en P, ca_en M, ca_en C, ca_en F, ca_en L, ca_en U, s)) : wpX_markAllWithin post (nx, ic, ca_en K, ca_en P, ca_en M, ca_en C, ca_en F, ca_en L, ca_en U, dm) (nI f) := by
  refine pk_loop (fun k t (s : Nat → Int32) => wX_markAllWithin_2 post (nI f) nx ic k (nI t) (ca_en K) (ca_en P) (ca_en M) (ca_en C) (ca_en F) (ca_en L) (ca_en U) s) (fun t s => 2 ≤ t ∧ ca_mk (ca_dm K P f) t s) 62 2 dm (by omega) ⟨by omega, fun j h1 h2 => by omega⟩ ?_ ?_
  · intro k s I
    exact br_t ca_g62 (hp s I.2)
  · intro k t s ht I go
    have st : ∀ x, x = ca_bi (ca_dm K P f t) → ca_mk (ca_dm K P f) (t + 1) (upd s (nI t).toNatClampNeg x) := by
      intro x hx
      rw [nI_clamp (by omega)]
      exact ca_mk_s I.2 hx
    refine br_f (ca_g61 ht) ⟨ca_i62 ht, pk_eq (K t) 0 (fun e => ⟨ca_i62 ht, nm_e (nm_r (nI_1 t) (go _ ⟨by omega, st _ ?_⟩))⟩) (fun e => ?_) (ca_ec K (by omega)) rfl (by have := ca_Tb T t; omega) (by omega)⟩
    · rw [ca_b0, ca_bi_f (ca_dm_f (fun z => z.2.2.1 e))]
    · refine xa_within T e hf hf2 (fun h => br_f ca_n10 ⟨ca_i62 ht, nm_e (nm_r (nI_1 t) (go _ ⟨by omega, st _ ?_⟩))⟩) (fun h => br_t rfl ⟨ca_i62 ht, nm_e (nm_r (nI_1 t) (go _ ⟨by omega, st _ ?_⟩))⟩)
      · rw [ca_b1, ca_bi_t ((ca_dm_t t).mpr ⟨I.1, ht, e, h⟩)]
      · rw [ca_b0, ca_bi_f (ca_dm_f (fun z => by rw [h] at z; exact absurd z.2.2.2 (by decide)))]
theorem ca_dt_n {D : Nat → Bool} {t : Nat} (f : Nat → Nat) : ca_cut (ca_dt D t) f t = f t := by
  refine ca_cut_f ?_
  unfold ca_dt
  simp
abbrev ca_S7 : Type := Int32 × Int32 × (Nat → Int32) × (Nat → Int32) × (Nat → Int32) × (Nat → Int32) × (Nat → Int32)
theorem xa_discM (B : ca_B C F L U) {post : Int32 → SX → Prop} {D : Nat → Bool} {jc : Nat} (hj : jc = ca_cn (ca_pr K) 62) (hD : ∀ j, D j = true → 2 ≤ j ∧ j < 62 ∧ K j ≠ 0) (hm : ca_mk D 62 dm)
    (hp : ∀ V jd, ca_B (ca_cut D C) F L V → jd = ca_cn (ca_pr (ca_cut D K)) 62 → post (nI (ca_cn D 62)) (nx, (nI jd), ca_en (ca_cut D K), ca_en (ca_cut D P), ca_en (ca_cut D M), ca_en (ca_cut D C), ca_en F, ca_en L, ca_en V, dm)) :
    wpX_discardMarked post (nx, (nI jc), ca_en K, ca_en P, ca_en M, ca_en C, ca_en F, ca_en L, ca_en U, dm) := by
  have df : ∀ j, ¬ (2 ≤ j ∧ j < 62 ∧ K j ≠ 0) → D j = false := fun j h => by
    cases e : D j with
    | true => exact (h (hD j e)).elim
    | false => rfl
  have d0 : D 0 = false := df 0 (by omega)
  have d1 : D 1 = false := df 1 (by omega)
  refine pk_loop (fun k t (s : ca_S7) => wX_discardMarked_4 post k s.1 (nI t) nx (s.2.1) s.2.2.1 s.2.2.2.1 s.2.2.2.2.1 s.2.2.2.2.2.1 (ca_en F) (ca_en L) s.2.2.2.2.2.2 dm)
    (fun t s => 2 ≤ t ∧ ∃ V jd, s = (nI (ca_cn D t), nI jd, ca_en (ca_cut (ca_dt D t) K), ca_en (ca_cut (ca_dt D t) P), ca_en (ca_cut (ca_dt D t) M), ca_en (ca_cut (ca_dt D t) C), ca_en V) ∧
      ca_B (ca_cut (ca_dt D t) C) F L V ∧ jd = ca_cn (ca_pr (ca_cut (ca_dt D t) K)) 62) 62 2
    (0, nI jc, ca_en K, ca_en P, ca_en M, ca_en C, ca_en U) (by omega) ?_ ?_ ?_
  · refine ⟨by omega, U, jc, ?_, ?_, ?_⟩
    · rw [ca_dt_2 d0 d1, ca_dt_2 d0 d1, ca_dt_2 d0 d1, ca_dt_2 d0 d1, ca_cn_2 d0 d1]; rfl
    · rw [ca_dt_2 d0 d1]; exact B
    · rw [ca_dt_2 d0 d1]; exact hj
  · intro k s I
    obtain ⟨_, V, jd, rfl, hB, hjd⟩ := I
    have h62 : ∀ j, D j = true → j < 62 := fun j h => (hD j h).2.1
    rw [ca_dt_62 h62] at hB hjd
    rw [ca_dt_62 h62, ca_dt_62 h62, ca_dt_62 h62, ca_dt_62 h62]
    exact br_t ca_g62 (hp V jd hB hjd)
  · intro k t s ht I go
    obtain ⟨h2, V, jd, rfl, hB, hjd⟩ := I
    have hd := hm t h2 ht
    cases e : D t with
    | false =>
      refine br_f (ca_g61 ht) ⟨ca_i62 ht, br_t ?_ (nm_r (nI_1 t) (go _ ⟨by omega, V, jd, ?_, ?_, ?_⟩))⟩
      · rw [nI_clamp (by omega), hd, ca_bi_f e]
      · rw [ca_dt_f e, ca_dt_f e, ca_dt_f e, ca_dt_f e, ca_cn_f e]
      · rw [ca_dt_f e]; exact hB
      · rw [ca_dt_f e]; exact hjd
    | true =>
      have hk := (hD t e).2.2
      have h1 := ca_ic_rm (K := ca_cut (ca_dt D t) K) h2 ht (by rw [ca_dt_n]; exact hk)
      refine br_f (ca_g61 ht) ⟨ca_i62 ht, br_f ?_ (xa_discard hB ht (fun W hW => ?_))⟩
      · rw [nI_clamp (by omega), hd, ca_bi_t e]; decide
      · rw [← ca_dt_t e] at hW
        refine nm_r (nI_1 _) (nm_r (nI_1 t) (go (nI (ca_cn D t + 1), nI jd - 1, ca_en (ca_up (ca_cut (ca_dt D t) K) t 0), ca_en (ca_up (ca_cut (ca_dt D t) P) t 0), ca_en (ca_up (ca_cut (ca_dt D t) M) t 0), ca_en (ca_up (ca_cut (ca_dt D t) C) t 0), ca_en W) ⟨by omega, W, jd - 1, ?_, hW, ?_⟩))
        · rw [ca_dt_t e, ca_dt_t e, ca_dt_t e, ca_dt_t e, ca_cn_t e, show (1 : Int32) = nI 1 from rfl, pk_sub (by omega)]
        · rw [ca_dt_t e]; omega
theorem ca_rk_u (T : ca_T K P M nn) {f r s : Nat} (hr : ca_ch K P f r) (hs : ca_ch K P f s) (h : nI (ca_rk K P M f (M r)) = nI (ca_rk K P M f (M s))) : r = s := by
  have e := (nI_eq (by have := ca_rk_b K P M f (M r); omega) (by have := ca_rk_b K P M f (M s); omega)).mp h
  by_cases l : M r < M s
  · have := ca_rk_lt hr rfl l; omega
  · by_cases g : M s < M r
    · have := ca_rk_lt hs rfl g; omega
    · exact T.2.2.2.2.2.1 r s hr.1 hs.1 hr.2.2.1 hs.2.2.1 (by rw [hr.2.2.2, hs.2.2.2]) (by omega)
theorem xa_entry (T : ca_T K P M nn) {post : Int32 → Prop} {f : Nat} {v : Int32} (hf : f < 62) (h1 : ∀ r, ca_ch K P f r → nI (ca_rk K P M f (M r)) = v → post (nI r))
    (h0 : (∀ r, ca_ch K P f r → nI (ca_rk K P M f (M r)) ≠ v) → post (-12)) : ∃ n, wX_entry_15 post (nI f) v nx ic (ca_en K) (ca_en P) (ca_en M) (ca_en C) (ca_en F) (ca_en L) (ca_en U) dm n 2 := by
  refine pk_loop (fun k t (_ : Unit) => wX_entry_15 post (nI f) v nx ic (ca_en K) (ca_en P) (ca_en M) (ca_en C) (ca_en F) (ca_en L) (ca_en U) dm k (nI t)) (fun t _ => 2 ≤ t ∧ ∀ j, j < t → ca_ch K P f j → nI (ca_rk K P M f (M j)) ≠ v) 62 2 () (by omega) ⟨by omega, fun j h1 h2 => by have := h2.1; omega⟩ ?_ ?_
  · intro k s I
    exact br_t ca_g62 (h0 (fun r hr => I.2 r hr.2.1 hr))
  · intro k t s ht I go
    refine br_f (ca_g61 ht) (xa_kid T ht hf (fun h => br_t rfl (nm_r (nI_1 t) (go () ⟨by omega, fun j hj hc => ?_⟩))) (fun hk hq => br_f ca_n10 ⟨ca_i62 ht, ?_⟩))
    · by_cases e : j = t
      · rw [e] at hc; exact (h ⟨hc.2.2.1, hc.2.2.2⟩).elim
      · exact I.2 j (by omega) hc
    · rw [ca_ec M (by omega)]
      refine xa_below T hf (by have := ca_Tb T t; omega) ?_
      by_cases e : nI (ca_rk K P M f (M t)) = v
      · exact br_t e (h1 t ⟨I.1, ht, hk, hq⟩ e)
      · refine br_f e (nm_r (nI_1 t) (go () ⟨by omega, fun j hj hc => ?_⟩))
        by_cases e2 : j = t
        · rw [e2]; exact e
        · exact I.2 j (by omega) hc
end
end
end
section
section
variable {nx : Int32} {K P M C F L U : Nat → Nat} {p m c mk tk : Nat → Int32} {nn : Nat}
abbrev ca_ag (K P M C : Nat → Nat) (p m c : Nat → Int32) : Prop := ∀ i, 2 ≤ i → K i ≠ 0 → p i = nI (P i) ∧ m i = nI (M i) ∧ c i = nI (C i)
theorem ya_mis_f (T : ca_T K P M nn) {post : Int32 → Prop} {i : Nat} (h1 : 1 ≤ i) (h2 : i < 62) (hk : K i ≠ 0) (hp : post 0) : wpY_missing post (nx, ca_en K, p, m, c, ca_en F, ca_en L, mk, tk) (nI i) :=
  br_f (nI_nlt (b := 1) h1 (by omega)) (br_f (ca_g61 h2) ⟨ca_i62 h2, pk_eq (K i) 0 (fun e => (hk e).elim) (fun _ => hp) (ca_ec K (by omega)) rfl (by have := ca_Tb T i; omega) (by omega)⟩)
theorem ya_mis_t {post : Int32 → Prop} {v : Int32} (h : ca_ms K v) (hp : post 1) : wpY_missing post (nx, ca_en K, p, m, c, ca_en F, ca_en L, mk, tk) v := by
  by_cases a : v < 1
  · exact br_t a hp
  · refine br_f a ?_
    by_cases b : 61 < v
    · exact br_t b hp
    · refine br_f b ?_
      rcases h with h | h | ⟨i, h1, h2, rfl, h3⟩
      · exact (a h).elim
      · exact (b h).elim
      · exact ⟨ca_i62 h2, br_t (by rw [ca_ec K (by omega), h3]; rfl) hp⟩
theorem ya_rfo_m {post : Int32 → Prop} {v : Int32} (h : ca_ms K v) (hp : post (-1)) : wpY_refuseFolder post (nx, ca_en K, p, m, c, ca_en F, ca_en L, mk, tk) v := by
  unfold wpY_refuseFolder
  exact ya_mis_t h (br_f ca_n10 hp)
theorem ya_rfo_t (T : ca_T K P M nn) {post : Int32 → Prop} {i : Nat} (h2 : i < 62) (hk : K i = 2) (hp : post 0) : wpY_refuseFolder post (nx, ca_en K, p, m, c, ca_en F, ca_en L, mk, tk) (nI i) := by
  unfold wpY_refuseFolder
  exact ya_mis_f T (ca_T62 T (by omega)).1 h2 (by omega) (br_t rfl ⟨ca_i62 h2, br_t (by rw [ca_ec K (by omega), hk]; rfl) hp⟩)
theorem ya_rfo_n (T : ca_T K P M nn) {post : Int32 → Prop} {i : Nat} (h2 : i < 62) (hk : K i = 1) (hp : post (-2)) : wpY_refuseFolder post (nx, ca_en K, p, m, c, ca_en F, ca_en L, mk, tk) (nI i) := by
  unfold wpY_refuseFolder
  exact ya_mis_f T (ca_T62 T (by omega)).1 h2 (by omega) (br_t rfl ⟨ca_i62 h2, br_f (by rw [ca_ec K (by omega), hk]; decide) hp⟩)
theorem ya_rfi_m {post : Int32 → Prop} {v : Int32} (h : ca_ms K v) (hp : post (-1)) : wpY_refuseFile post (nx, ca_en K, p, m, c, ca_en F, ca_en L, mk, tk) v := by
  unfold wpY_refuseFile
  exact ya_mis_t h (br_f ca_n10 hp)
theorem ya_rfi_t (T : ca_T K P M nn) {post : Int32 → Prop} {i : Nat} (h2 : i < 62) (hk : K i = 1) (hp : post 0) : wpY_refuseFile post (nx, ca_en K, p, m, c, ca_en F, ca_en L, mk, tk) (nI i) := by
  unfold wpY_refuseFile
  exact ya_mis_f T (ca_T62 T (by omega)).1 h2 (by omega) (br_t rfl ⟨ca_i62 h2, br_t (by rw [ca_ec K (by omega), hk]; rfl) hp⟩)
theorem ya_rfi_n (T : ca_T K P M nn) {post : Int32 → Prop} {i : Nat} (h2 : i < 62) (hk : K i = 2) (hp : post (-9)) : wpY_refuseFile post (nx, ca_en K, p, m, c, ca_en F, ca_en L, mk, tk) (nI i) := by
  unfold wpY_refuseFile
  exact ya_mis_f T (ca_T62 T (by omega)).1 h2 (by omega) (br_t rfl ⟨ca_i62 h2, br_f (by rw [ca_ec K (by omega), hk]; decide) hp⟩)
theorem ya_rit_m {post : Int32 → Prop} {v : Int32} (h : ca_ms K v) (hp : post (-1)) : wpY_refuseItem post (nx, ca_en K, p, m, c, ca_en F, ca_en L, mk, tk) v := by
  unfold wpY_refuseItem
  exact ya_mis_t h (br_f ca_n10 hp)
theorem ya_rit_r (T : ca_T K P M nn) {post : Int32 → Prop} (hp : post (-6)) : wpY_refuseItem post (nx, ca_en K, p, m, c, ca_en F, ca_en L, mk, tk) (nI 1) := by
  unfold wpY_refuseItem
  exact ya_mis_f T (by omega) (by omega) (by have := T.1.2.1; omega) (br_t rfl (br_t rfl hp))
theorem ya_rit_t (T : ca_T K P M nn) {post : Int32 → Prop} {i : Nat} (h1 : 2 ≤ i) (h2 : i < 62) (hk : K i ≠ 0) (hp : post 0) : wpY_refuseItem post (nx, ca_en K, p, m, c, ca_en F, ca_en L, mk, tk) (nI i) := by
  unfold wpY_refuseItem
  exact ya_mis_f T (by omega) h2 hk (br_t rfl (pk_eq i 1 (fun e => by omega) (fun _ => hp)))
theorem ya_bad_t {post : Int32 → Prop} {w : Int32} (hw : w < 0 ∨ (¬ w < 0 ∧ ¬ w ≤ 255)) (hp : post 1) : wpY_badName post w := by
  rcases hw with a | ⟨a, b⟩
  · exact br_t a hp
  · exact br_f a (br_f b hp)
theorem ya_bad_f {post : Int32 → Prop} {n : Nat} (hn : n ≤ 255) (hp : post 0) : wpY_badName post (nI n) :=
  br_f (nI_pos (by omega)) (br_t (nI_le (b := 255) hn (by decide)) hp)
theorem ya_look (T : ca_T K P M nn) (A : ca_ag K P M C p m c) {post : Int32 → Prop} {f n : Nat} (hf : f < 62) (hn : n ≤ 255) (hp : ∀ r, ca_lk K P M f n r → post (nI r)) :
    wpY_lookup post (nx, ca_en K, p, m, c, ca_en F, ca_en L, mk, tk) (nI f) (nI n) := by
  refine pk_loop (fun k i (_ : Unit) => wY_lookup_2 post (nI f) (nI n) nx (ca_en K) p m c (ca_en F) (ca_en L) mk tk k (nI i)) (fun i _ => 2 ≤ i ∧ ∀ j, j < i → ca_ch K P f j → M j ≠ n) 62 2 () (by omega)
    ⟨by omega, fun j hj h => by have := h.1; omega⟩ ?_ ?_
  · intro k s I
    exact br_t (by decide) (hp 0 (Or.inl ⟨rfl, fun j hj => I.2 j hj.2.1 hj⟩))
  · intro k i s hi I go
    have tb := ca_Tb T i
    have nx : ¬ (ca_ch K P f i ∧ M i = n) → (2 ≤ i + 1 ∧ ∀ j, j < i + 1 → ca_ch K P f j → M j ≠ n) := by
      intro h
      refine ⟨by omega, fun j hj hc e => ?_⟩
      by_cases e2 : j = i
      · rw [e2] at hc e; exact h ⟨hc, e⟩
      · exact I.2 j (by omega) hc e
    refine br_f (nI_ge (b := 62) hi (by decide)) ⟨ca_i62 hi, pk_eq (K i) 0 (fun e => nm_r (nI_1 i) (go () (nx (fun z => z.1.2.2.1 e)))) (fun e => ⟨ca_i62 hi, ?_⟩) (ca_ec K (by omega)) rfl (by omega) (by omega)⟩
    have ag := A i I.1 e
    refine pk_eq (P i) f (fun e2 => ⟨ca_i62 hi, ?_⟩) (fun e2 => nm_r (nI_1 i) (go () (nx (fun z => e2 z.1.2.2.2)))) (ca_rc (by omega) ag.1) rfl (by omega) (by omega)
    exact pk_eq (M i) n (fun e3 => hp i (Or.inr ⟨⟨I.1, hi, e, e2⟩, e3⟩)) (fun e3 => nm_r (nI_1 i) (go () (nx (fun z => e3 z.2)))) (ca_rc (by omega) ag.2.1) rfl (by omega) (by omega)
theorem ya_items (T : ca_T K P M nn) {post : Int32 → Prop} (hp : post (nI (ca_cn (ca_pr K) 62))) : wpY_items post (nx, ca_en K, p, m, c, ca_en F, ca_en L, mk, tk) := by
  refine pk_loop (fun k i (s : Nat) => wY_items_4 post nx (ca_en K) p m c (ca_en F) (ca_en L) mk tk k (nI s) (nI i)) (fun i s => 2 ≤ i ∧ s = ca_cn (ca_pr K) i) 62 2 0 (by omega)
    ⟨by omega, (ca_cn_2 (ca_pr_f.mpr (by omega)) (ca_pr_f.mpr (by omega))).symm⟩ ?_ ?_
  · intro k s I
    exact br_t (by decide) (by rw [I.2]; exact hp)
  · intro k i s hi I go
    have tb := ca_Tb T i
    refine br_f (nI_ge (b := 62) hi (by decide)) ⟨ca_i62 hi, pk_eq (K i) 0 (fun e => nm_r (nI_1 i) (go s ⟨by omega, ?_⟩)) (fun e => nm_r (nI_1 s) (nm_r (nI_1 i) (go (s + 1) ⟨by omega, ?_⟩))) (ca_ec K (by omega)) rfl (by omega) (by omega)⟩
    · rw [ca_cn_f (p := ca_pr K) (n := i) (ca_pr_f.mpr (fun z => z.2 e))]; exact I.2
    · rw [ca_cn_t (p := ca_pr K) (n := i) (ca_pr_t.mpr ⟨I.1, e⟩), I.2]
theorem ya_ents (T : ca_T K P M nn) (A : ca_ag K P M C p m c) {post : Int32 → Prop} {f : Nat} (hf : f < 62) (hp : post (nI (ca_cn (ca_nc K P f) 62))) : ∃ n, wY_entries_17 post (nI f) nx (ca_en K) p m c (ca_en F) (ca_en L) mk tk n 0 2 := by
  refine pk_loop (fun k i (s : Nat) => wY_entries_17 post (nI f) nx (ca_en K) p m c (ca_en F) (ca_en L) mk tk k (nI s) (nI i)) (fun i s => 2 ≤ i ∧ s = ca_cn (ca_nc K P f) i) 62 2 0 (by omega)
    ⟨by omega, (ca_cn_2 (ca_nc_f.mpr (by omega)) (ca_nc_f.mpr (by omega))).symm⟩ ?_ ?_
  · intro k s I
    exact br_t (by decide) (by rw [I.2]; exact hp)
  · intro k i s hi I go
    have tb := ca_Tb T i
    refine br_f (nI_ge (b := 62) hi (by decide)) ⟨ca_i62 hi, pk_eq (K i) 0 (fun e => nm_r (nI_1 i) (go s ⟨by omega, ?_⟩)) (fun e => ⟨ca_i62 hi, ?_⟩) (ca_ec K (by omega)) rfl (by omega) (by omega)⟩
    · rw [ca_cn_f (p := ca_nc K P f) (n := i) (ca_nc_f.mpr (fun z => z.2.1 e))]; exact I.2
    · refine pk_eq (P i) f (fun e2 => nm_r (nI_1 s) (nm_r (nI_1 i) (go (s + 1) ⟨by omega, ?_⟩))) (fun e2 => nm_r (nI_1 i) (go s ⟨by omega, ?_⟩)) (ca_rc (by omega) (A i I.1 e).1) rfl (by omega) (by omega)
      · rw [ca_cn_t (p := ca_nc K P f) (n := i) (ca_nc_t.mpr ⟨I.1, e, e2⟩), I.2]
      · rw [ca_cn_f (p := ca_nc K P f) (n := i) (ca_nc_f.mpr (fun z => e2 z.2.2))]; exact I.2
theorem ya_within (T : ca_T K P M nn) (A : ca_ag K P M C p m c) {post : Int32 → Prop} {x f : Nat} (hx : K x ≠ 0) (hf2 : f < 62) (h1 : ca_wn P f 62 x = true → post 1) (h0 : ca_wn P f 62 x = false → post 0) :
    wpY_within post (nx, ca_en K, p, m, c, ca_en F, ca_en L, mk, tk) (nI x) (nI f) := by
  refine pk_loop (fun k i (s : Nat) => wY_within_5 post (nI f) nx (ca_en K) p m c (ca_en F) (ca_en L) mk tk k (nI s) (nI i)) (fun i s => K s ≠ 0 ∧ ca_wn P f (62 - i) s = ca_wn P f 62 x) 62 0 x (by omega) ⟨hx, rfl⟩ ?_ ?_
  · intro k s I
    exact br_t (by decide) (h0 (by rw [← I.2]; rfl))
  · intro k i s hi I go
    obtain ⟨a, b⟩ := I
    have hs := ca_T62 T a
    obtain ⟨d, hd⟩ : ∃ d, 62 - i = d + 1 := ⟨61 - i, by omega⟩
    have hd2 : 62 - (i + 1) = d := by omega
    rw [hd] at b
    simp only [ca_wn] at b
    refine br_f (nI_ge (b := 62) hi (by decide)) (pk_eq s f (fun e => ?_) (fun e => pk_eq s 1 (fun e1 => ?_) (fun e1 => ⟨ca_i62 hs.2, nm_r (ca_rc (by omega) (A s (by omega) a).1) (nm_r (nI_1 i) (go (P s) ⟨?_, ?_⟩))⟩)))
    · rw [if_pos e] at b
      exact h1 b.symm
    · rw [if_neg e, if_pos e1] at b
      exact h0 b.symm
    · have := T.2.2.2.2.1 s (by omega) a
      omega
    · rw [if_neg e, if_neg e1] at b
      rw [hd2]; exact b
theorem ya_entry (T : ca_T K P M nn) (A : ca_ag K P M C p m c) {post : Int32 → Prop} {f : Nat} {v : Int32} (hf : f < 62) (h1 : ∀ r, ca_ch K P f r → nI (ca_rk K P M f (M r)) = v → post (nI r))
    (h0 : (∀ r, ca_ch K P f r → nI (ca_rk K P M f (M r)) ≠ v) → post (-12)) : ∃ n, wY_entry_18 post (nI f) v nx (ca_en K) p m c (ca_en F) (ca_en L) mk tk n 0 0 := by
  refine pk_loop (fun k t (s : Nat) => wY_entry_18 post (nI f) v nx (ca_en K) p m c (ca_en F) (ca_en L) mk tk k (nI s) (nI t)) (fun t s => s = ca_rk K P M f t ∧ ∀ r, ca_ch K P f r → M r < t → nI (ca_rk K P M f (M r)) ≠ v) 256 0 0 (by omega)
    ⟨(ca_rk_0 K P M f).symm, fun r _ h => by omega⟩ ?_ ?_
  · intro k s I
    exact br_t (by decide) (h0 (fun r hr => I.2 r hr (by have := ca_Tb T r; omega)))
  · intro k t s ht I go
    refine br_f (nI_ge (b := 256) ht (by decide)) (ya_look T A hf (by omega) (fun r hr => ?_))
    have hb := ca_lk_b hr
    rcases hb with e | e
    · rw [e] at hr ⊢
      refine br_t (by decide) (br_t (by decide) (nm_r (nI_1 t) (go s ⟨?_, fun q hq hl => ?_⟩)))
      · rw [ca_rk_n hr]; exact I.1
      · by_cases e2 : M q = t
        · rcases hr with hr | hr
          · exact (hr.2 q hq e2).elim
          · have := hr.1.1; omega
        · exact I.2 q hq (by omega)
    · have hn : ¬ nI r ≤ 0 := nI_nle (by omega) (by omega)
      have hc : ca_ch K P f r ∧ M r = t := by
        rcases hr with hr | hr
        · omega
        · exact hr
      refine br_f hn ?_
      by_cases e3 : nI s = v
      · exact br_t e3 (h1 r hc.1 (by rw [hc.2, ← I.1]; exact e3))
      · refine br_f e3 (br_f hn (nm_r (nI_1 s) (nm_r (nI_1 t) (go (s + 1) ⟨?_, fun q hq hl => ?_⟩))))
        · rw [ca_rk_s T (by omega) hr, I.1]
        · by_cases e2 : M q = t
          · rw [e2, ← I.1]; exact e3
          · exact I.2 q hq (by omega)
end
end
section
section
variable {nx : Int32} {K P M C F L U : Nat → Nat} {p m c mk tk : Nat → Int32} {nn : Nat}
/-- the taken ones after the extents below e -/
def ca_tk (C F L : Nat → Nat) (e : Nat) (s : Nat → Int32) : Prop := ∀ b, b < 96 → ((s b = 0 ∧ ¬ ∃ d, d < e ∧ ca_A C d ∧ ca_S F L d b) ∨ (s b = 1 ∧ ∃ d, d < e ∧ ca_A C d ∧ ca_S F L d b))
theorem ca_tk_n {C F L : Nat → Nat} {e : Nat} {s : Nat → Int32} (h : ca_tk C F L e s) (ha : ¬ ca_A C e) : ca_tk C F L (e + 1) s := by
  intro b hb
  rcases h b hb with ⟨h1, h2⟩ | ⟨h1, d, h2, h3, h4⟩
  · refine Or.inl ⟨h1, fun ⟨d, d1, d2, d3⟩ => ?_⟩
    by_cases z : d = e
    · rw [z] at d2; exact ha d2
    · exact h2 ⟨d, by omega, d2, d3⟩
  · exact Or.inr ⟨h1, d, by omega, h3, h4⟩
theorem ca_tk_a {C F L : Nat → Nat} {e : Nat} {s t : Nat → Int32} (h : ca_tk C F L e s) (ha : ca_A C e) (hi : ∀ b, b < 96 → ca_S F L e b → t b = 1) (ho : ∀ b, b < 96 → ¬ ca_S F L e b → t b = s b) : ca_tk C F L (e + 1) t := by
  intro b hb
  by_cases hs : ca_S F L e b
  · exact Or.inr ⟨hi b hb hs, e, by omega, ha, hs⟩
  · rw [ho b hb hs]
    rcases h b hb with ⟨h1, h2⟩ | ⟨h1, d, h2, h3, h4⟩
    · refine Or.inl ⟨h1, fun ⟨d, d1, d2, d3⟩ => ?_⟩
      by_cases z : d = e
      · rw [z] at d3; exact hs d3
      · exact h2 ⟨d, by omega, d2, d3⟩
    · exact Or.inr ⟨h1, d, by omega, h3, h4⟩
theorem ca_tk_e {C F L U : Nat → Nat} {s : Nat → Int32} (B : ca_B C F L U) (h : ca_tk C F L 372 s) (hC : ∀ e, ca_A C e → e < 372) : ∀ b, b < 96 → s b = nI (U b) := by
  intro b hb
  have hu := B.2.2.2.2 b hb
  have h1 := B.2.2.2.1 b
  rcases h b hb with ⟨a, n⟩ | ⟨a, d, _, d2, d3⟩
  · have : U b = 0 := by
      by_cases z : U b = 0
      · exact z
      · obtain ⟨d, d2, d3⟩ := hu.mp z
        exact (n ⟨d, hC d d2, d2, d3⟩).elim
    rw [a, this]; rfl
  · have := hu.mpr ⟨d, d2, d3⟩
    rw [a, show U b = 1 by omega]; rfl
theorem ya_note67 {post : SY → Prop} {J : Int32 → (Nat → Int32) → (Nat → Int32) → (Nat → Int32) → (Nat → Int32) → (Nat → Int32) → (Nat → Int32) → (Nat → Int32) → (Nat → Int32) → Prop} {e : Nat} {s0 : Nat → Int32}
    (he : e < 372) (hl : F e + L e ≤ 96) (hp : ∀ s : Nat → Int32, (∀ b, b < 96 → ca_S F L e b → s b = 1) → (∀ b, b < 96 → ¬ ca_S F L e b → s b = s0 b) → J (nI (e + 1)) (ca_en K) p m c (ca_en F) (ca_en L) mk s) :
    ∃ n, wY_note_67 post J (nI e) nx n (nI (F e)) (ca_en K) p m c (ca_en F) (ca_en L) mk s0 := by
  have hv : vp_in (nI e) 372 := vp_in_nI he (by decide)
  have e1 : ca_en F (nI e).toNatClampNeg + ca_en L (nI e).toNatClampNeg = nI (F e + L e) := by
    rw [ca_ec F (by omega), ca_ec L (by omega), nI_add]
  refine pk_loop (fun k b (s : Nat → Int32) => wY_note_67 post J (nI e) nx k (nI b) (ca_en K) p m c (ca_en F) (ca_en L) mk s)
    (fun b s => F e ≤ b ∧ (∀ d, d < 96 → F e ≤ d → d < b → s d = 1) ∧ (∀ d, d < 96 → ¬ (F e ≤ d ∧ d < b) → s d = s0 d)) (F e + L e) (F e) s0 (by omega) ⟨by omega, fun d _ h1 h2 => by omega, fun d _ _ => rfl⟩ ?_ ?_
  · intro k s I
    exact ⟨hv, hv, br_t (by rw [e1]; exact nI_le (Nat.le_refl _) (by omega)) (nm_r (nI_1 e) (hp s (fun b hb hs => I.2.1 b hb hs.1 hs.2) (fun b hb hs => I.2.2 b hb hs)))⟩
  · intro k b s hb I go
    have hFb := I.1
    refine ⟨hv, hv, br_f (by rw [e1]; exact nI_ge hb (by omega)) (br_f (nI_ge (b := 96) (by omega) (by decide)) ⟨vp_in_nI (by omega) (by decide), nm_e (nm_r (nI_1 b) (go _ ⟨by omega, fun d h0 h1 h2 => ?_, fun d h0 h1 => ?_⟩))⟩)⟩
    · rw [nI_clamp (by omega), ca_b1]
      by_cases z : d = b
      · rw [z, pk_us]
      · rw [pk_un z]; exact I.2.1 d h0 h1 (by omega)
    · rw [nI_clamp (by omega), pk_un (fun z => by omega)]
      exact I.2.2 d h0 (by omega)
theorem ya_note24 (T : ca_T K P M nn) (B : ca_B C F L U) (A : ca_ag K P M C p m c) (hC : ∀ i, K i ≠ 1 → C i = 0) {post : SY → Prop} {s0 : Nat → Int32} (h0 : ∀ b, b < 96 → s0 b = 0)
    (hp : ∀ s, (∀ b, b < 96 → s b = nI (U b)) → post (nx, ca_en K, p, m, c, ca_en F, ca_en L, mk, s)) : ∃ n, wY_note_24 post nx n 12 (ca_en K) p m c (ca_en F) (ca_en L) mk s0 := by
  obtain ⟨⟨t0, t1, _⟩, tn, tz, tb, _⟩ := T
  have act : ∀ e, ca_A C e → 12 ≤ e ∧ e < 372 ∧ K (e / 6) = 1 := by
    intro e he
    unfold ca_A at he
    have h1 : K (e / 6) = 1 := by
      by_cases z : K (e / 6) = 1
      · exact z
      · have := hC _ z; omega
    have h2 : e / 6 ≠ 0 := fun z => by rw [z] at h1; omega
    have h3 : e / 6 ≠ 1 := fun z => by rw [z] at h1; omega
    have h4 : e / 6 < 62 := by
      by_cases z : e / 6 < 62
      · exact z
      · have := tz (e / 6) (by omega); omega
    exact ⟨by omega, by omega, h1⟩
  refine pk_loop (fun k e (s : Nat → Int32) => wY_note_24 post nx k (nI e) (ca_en K) p m c (ca_en F) (ca_en L) mk s) (fun e s => 12 ≤ e ∧ ca_tk C F L e s) 372 12 s0 (by omega) ⟨by omega, fun b hb => Or.inl ⟨h0 b hb, fun ⟨d, d1, d2, _⟩ => ?_⟩⟩ ?_ ?_
  · have := act d d2; omega
  · intro k s I
    exact br_t (by decide) (hp s (ca_tk_e B I.2 (fun e he => (act e he).2.1)))
  · intro k e s he I go
    have h12 := I.1
    have ed : nI e / 6 = nI (e / 6) := pk_div (d := 6) (by omega) (by omega) (by omega)
    have er : nI e - nI e / 6 * 6 = nI (e % 6) := pk_rem (d := 6) (by omega) (by omega) (by omega)
    have h60 : ¬ (6 : Int32) = 0 := by decide
    have hi : vp_in (nI e / 6) 62 := by rw [ed]; exact ca_i62 (by omega)
    have t2 := tb (e / 6)
    have h6 := B.1 (e / 6)
    refine br_f (nI_ge (b := 372) he (by decide)) ⟨h60, hi, pk_eq (K (e / 6)) 1 (fun hk => ⟨h60, h60, hi, ?_⟩) (fun hk => nm_r (nI_1 e) (go s ⟨by omega, ca_tk_n I.2 ?_⟩)) (by rw [ed, ca_ec K (by omega)]) rfl (by omega) (by omega)⟩
    · refine pk_le (C (e / 6)) (e % 6) (fun hl => nm_r (nI_1 e) (go s ⟨by omega, ca_tk_n I.2 ?_⟩)) (fun hl => ?_) (by rw [ed]; exact ca_rc (by omega) (A (e / 6) (by omega) (by omega)).2.2) er (by omega) (by omega)
      · unfold ca_A; omega
      · have ha : ca_A C e := hl
        have hv := B.2.1 e ha
        refine ⟨vp_in_nI he (by decide), nm_r (ca_ec F (by omega)) (ya_note67 he hv.2.2 (fun t ht1 ht2 => go t ⟨by omega, ca_tk_a I.2 ha ht1 ht2⟩))⟩
    · intro ha
      exact hk (act e ha).2.2
theorem ya_note (T : ca_T K P M nn) (B : ca_B C F L U) (A : ca_ag K P M C p m c) (hC : ∀ i, K i ≠ 1 → C i = 0) {post : SY → Prop}
    (hp : ∀ s, (∀ b, b < 96 → s b = nI (U b)) → post (nx, ca_en K, p, m, c, ca_en F, ca_en L, mk, s)) : wpY_note post (nx, ca_en K, p, m, c, ca_en F, ca_en L, mk, tk) := by
  refine pk_loop (fun k t (s : Nat → Int32) => wY_note_2 post nx k (nI t) (ca_en K) p m c (ca_en F) (ca_en L) mk s) (fun t s => ∀ b, b < t → s b = 0) 96 0 tk (by omega) (fun b hb => by omega) ?_ ?_
  · intro k s I
    exact br_t (by decide) (ya_note24 T B A hC I hp)
  · intro k t s ht I go
    refine br_f (nI_ge (b := 96) ht (by decide)) ⟨vp_in_nI ht (by decide), nm_e (nm_r (nI_1 t) (go _ (fun b hb => ?_)))⟩
    rw [nI_clamp (by omega), ca_b0]
    by_cases z : b = t
    · rw [z, pk_us]
    · rw [pk_un z]; exact I b (by omega)
theorem ya_free8 {post : Int32 → SY → Prop} (b1 : ∀ b, U b ≤ 1) (ht : ∀ b, b < 96 → tk b = nI (U b)) (hp : post (nI (ca_cn (fun b => decide (U b = 0)) 96)) (nx, ca_en K, p, m, c, ca_en F, ca_en L, mk, tk)) : ∃ n, wY_free_8 post nx (ca_en K) p m c (ca_en F) (ca_en L) mk tk n 0 0 := by
  refine pk_loop (fun k t (s : Nat) => wY_free_8 post nx (ca_en K) p m c (ca_en F) (ca_en L) mk tk k (nI s) (nI t)) (fun t s => s = ca_cn (fun b => decide (U b = 0)) t) 96 0 0 (by omega) rfl ?_ ?_
  · intro k s I
    exact br_t (by decide) (by rw [I]; exact hp)
  · intro k t s hlt I go
    have hb := b1 t
    refine br_f (nI_ge (b := 96) hlt (by decide)) ⟨vp_in_nI hlt (by decide), pk_eq (U t) 0 (fun e => nm_r (nI_1 s) (nm_r (nI_1 t) (go (s + 1) ?_))) (fun e => nm_r (nI_1 t) (go s ?_)) (ca_rc (by omega) (ht t hlt)) rfl (by omega) (by omega)⟩
    · rw [ca_cn_t (n := t) (by simp [e]), I]
    · rw [ca_cn_f (n := t) (by simp [e])]; exact I
theorem ya_allf {post : Int32 → Prop} {a l : Nat} (ha : a < 96) (l2 : l ≤ 32) (b1 : ∀ b, U b ≤ 1) (ht : ∀ b, b < 96 → tk b = nI (U b)) (h1 : ca_ff U l a → post 1) (h0 : ¬ ca_ff U l a → post 0) :
    wpY_allFree post (nx, ca_en K, p, m, c, ca_en F, ca_en L, mk, tk) (nI a) (nI l) := by
  refine pk_le (a + l) 96 (fun h => ?_) (fun h => h0 (fun z => by have := z.1; omega)) (nI_add a l) rfl (by omega) (by omega)
  refine pk_loop (fun k t (_ : Unit) => wY_allFree_12 post (nI a) (nI l) nx (ca_en K) p m c (ca_en F) (ca_en L) mk tk k (nI t)) (fun t _ => a ≤ t ∧ ∀ b, a ≤ b → b < t → U b = 0) (a + l) a () (by omega) ⟨by omega, fun b _ _ => by omega⟩ ?_ ?_
  · intro k s I
    exact br_t (by rw [nI_add]; exact nI_le (Nat.le_refl _) (by omega)) (h1 ⟨h, I.2⟩)
  · intro k t s hlt I go
    have hb := b1 t
    refine br_f (by rw [nI_add]; exact nI_ge hlt (by omega)) ⟨vp_in_nI (by omega) (by decide), pk_eq (U t) 0 (fun e => nm_r (nI_1 t) (go () ⟨by omega, fun b x1 x2 => ?_⟩)) (fun e => h0 (fun z => e (z.2 t I.1 hlt))) (ca_rc (by omega) (ht t (by omega))) rfl (by omega) (by omega)⟩
    by_cases z : b = t
    · rw [z]; exact e
    · exact I.2 b x1 (by omega)
theorem ya_ext {post : Int32 → SY → Prop} {i l : Nat} (hi : i < 62) (hc : c i = nI (C i)) (h6 : C i < 6) (l1 : 1 ≤ l) (l2 : l ≤ 32) (b1 : ∀ b, U b ≤ 1) (ht : ∀ b, b < 96 → tk b = nI (U b))
    (h1 : ∀ a, ca_ff U l a → (∀ b, b < a → ¬ ca_ff U l b) → post (nI a) (nx, ca_en K, p, m, (upd c i (nI (C i + 1))), ca_en (ca_up F (i * 6 + C i) a), ca_en (ca_up L (i * 6 + C i) l), mk, tk))
    (h0 : (∀ b, ¬ ca_ff U l b) → post (-11) (nx, ca_en K, p, m, c, ca_en F, ca_en L, mk, tk)) : ∃ n, wY_extend_47 post (nI i) (nI l) nx (ca_en K) p m c (ca_en F) (ca_en L) mk tk n 0 := by
  have hci : c (nI i).toNatClampNeg = nI (C i) := ca_rc (by omega) hc
  have e2 : 6 * nI i + c (nI i).toNatClampNeg = nI (i * 6 + C i) := by
    rw [hci, show (6 : Int32) = nI 6 from rfl, pk_mul, nI_add, Nat.mul_comm]
  have hs : vp_in (nI (i * 6 + C i)) 372 := vp_in_nI (by omega) (by decide)
  have eF : ∀ (f : Nat → Nat) (x : Nat), upd (ca_en f) (6 * nI i + c (nI i).toNatClampNeg).toNatClampNeg (nI x) = ca_en (ca_up f (i * 6 + C i) x) := by
    intro f x
    rw [e2, nI_clamp (by omega), ca_upe]
  refine pk_loop (fun k t (_ : Unit) => wY_extend_47 post (nI i) (nI l) nx (ca_en K) p m c (ca_en F) (ca_en L) mk tk k (nI t)) (fun t _ => ∀ b, b < t → ¬ ca_ff U l b) 96 0 () (by omega) (fun b hb => by omega) ?_ ?_
  · intro k s I
    exact br_t (by decide) (h0 (fun b z => I b (by have := z.1; omega) z))
  · intro k t s hlt I go
    refine br_f (nI_ge (b := 96) hlt (by decide)) (ya_allf hlt l2 b1 ht (fun w => br_f ca_n10 ⟨ca_i62 hi, by rw [e2]; exact hs, nm_r (eF F t) ⟨ca_i62 hi, by rw [e2]; exact hs, nm_r (eF L l) ⟨ca_i62 hi, ca_i62 hi, nm_r (e' := upd c i (nI (C i + 1))) ?_ (h1 t w I)⟩⟩⟩) (fun w => br_t rfl (nm_r (nI_1 t) (go () (fun b hb => ?_)))))
    · rw [hci, nI_1, nI_clamp (by omega)]
    · by_cases z : b = t
      · rw [z]; exact w
      · exact I b (by omega)
theorem ya_blocks {post : Int32 → Prop} {i : Nat} (hi : i < 62) (hc : c i = nI (C i)) (h6 : C i ≤ 6) (hp : post (nI (ca_sm L (i * 6) (C i)))) : ∃ n, wY_blocks_17 post (nI i) nx (ca_en K) p m c (ca_en F) (ca_en L) mk tk n 0 0 := by
  have hci : c (nI i).toNatClampNeg = nI (C i) := ca_rc (by omega) hc
  refine pk_loop (fun k j (s : Nat) => wY_blocks_17 post (nI i) nx (ca_en K) p m c (ca_en F) (ca_en L) mk tk k (nI s) (nI j)) (fun j s => s = ca_sm L (i * 6) j) (C i) 0 0 (by omega) rfl ?_ ?_
  · intro k s I
    exact ⟨ca_i62 hi, br_t (by rw [hci]; exact nI_le (Nat.le_refl _) (by omega)) (by rw [I]; exact hp)⟩
  · intro k j s hj I go
    have e2 : 6 * nI i + nI j = nI (i * 6 + j) := by
      rw [show (6 : Int32) = nI 6 from rfl, pk_mul, nI_add, Nat.mul_comm]
    refine ⟨ca_i62 hi, br_f (by rw [hci]; exact nI_ge hj (by omega)) ⟨by rw [e2]; exact vp_in_nI (by omega) (by decide), nm_r (e' := nI (s + L (i * 6 + j))) ?_ (nm_r (nI_1 j) (go _ ?_))⟩⟩
    · rw [e2, ca_ec L (by omega), nI_add]
    · rw [I]; rfl
theorem ya_blockAt (B : ca_B C F L U) {post : Int32 → Prop} {i x : Nat} (hi : i < 62) (hc : c i = nI (C i)) (hx : x < 2 ^ 31) (hp : post (ca_ba F L (i * 6) (C i) 0 x)) : ∃ n, wY_blockAt_18 post (nI i) nx (ca_en K) p m c (ca_en F) (ca_en L) mk tk n (nI x) 0 := by
  have hci : c (nI i).toNatClampNeg = nI (C i) := ca_rc (by omega) hc
  have h6 := B.1 i
  refine pk_loop (fun k j (s : Nat) => wY_blockAt_18 post (nI i) nx (ca_en K) p m c (ca_en F) (ca_en L) mk tk k (nI s) (nI j)) (fun j s => s < 2 ^ 31 ∧ ca_ba F L (i * 6) (C i - j) j s = ca_ba F L (i * 6) (C i) 0 x) (C i) 0 x (by omega) ⟨hx, rfl⟩ ?_ ?_
  · intro k s I
    refine ⟨ca_i62 hi, br_t (by rw [hci]; exact nI_le (Nat.le_refl _) (by omega)) ?_⟩
    have h := I.2
    rw [Nat.sub_self] at h
    rw [← h] at hp
    exact hp
  · intro k j s hj I go
    have e2 : 6 * nI i + nI j = nI (i * 6 + j) := by
      rw [show (6 : Int32) = nI 6 from rfl, pk_mul, nI_add, Nat.mul_comm]
    have hl := B.2.1 (i * 6 + j) (by unfold ca_A; rw [show (i * 6 + j) / 6 = i by omega]; omega)
    have hs : vp_in (6 * nI i + nI j) 372 := by rw [e2]; exact vp_in_nI (by omega) (by decide)
    have hI := I.2
    have hI1 := I.1
    rw [show C i - j = (C i - (j + 1)) + 1 by omega] at hI
    simp only [ca_ba] at hI
    refine ⟨ca_i62 hi, br_f (by rw [hci]; exact nI_ge hj (by omega)) (br_f (nI_pos hI1) ⟨hs, pk_le (L (i * 6 + j)) s (fun e => ⟨hs, nm_r (e' := nI (s - L (i * 6 + j))) ?_ (nm_r (nI_1 j) (go _ ⟨by omega, ?_⟩))⟩) (fun e => ⟨hs, ?_⟩) (by rw [e2, ca_ec L (by omega)]) rfl (by omega) (by omega)⟩)⟩
    · rw [e2, ca_ec L (by omega), pk_sub e]
    · rw [if_pos e] at hI; exact hI
    · rw [if_neg (by omega)] at hI
      rw [e2, ca_ec F (by omega), nI_add, hI]
      exact hp
theorem ya_blockAtN {post : Int32 → Prop} {i : Nat} {v : Int32} (hi : i < 62) (hv : v < 0) (hp : post (-12)) : ∃ n, wY_blockAt_18 post (nI i) nx (ca_en K) p m c (ca_en F) (ca_en L) mk tk n v 0 :=
  ⟨1, ca_i62 hi, br_c (fun _ => hp) (fun _ => br_t hv hp)⟩
end
end
section
section
variable {nx : Int32} {K P M C F L U : Nat → Nat} {p m c mk tk : Nat → Int32} {nn : Nat}
theorem ya_disc {post : Int32 → SY → Prop} {D : Nat → Bool} (hD : ∀ j, D j = true → 2 ≤ j ∧ j < 62) (hm : ca_mk D 62 mk)
    (hp : post (nI (ca_cn D 62)) (nx, ca_en (ca_cut D K), p, m, c, ca_en F, ca_en L, mk, tk)) : ∃ n, wY_removeAll_60 post nx n 0 2 (ca_en K) p m c (ca_en F) (ca_en L) mk tk := by
  have df : ∀ j, ¬ (2 ≤ j ∧ j < 62) → D j = false := fun j h => by
    cases e : D j with
    | true => exact (h (hD j e)).elim
    | false => rfl
  have d0 : D 0 = false := df 0 (by omega)
  have d1 : D 1 = false := df 1 (by omega)
  refine pk_loop (fun k t (s : Int32 × (Nat → Int32)) => wY_removeAll_60 post nx k s.1 (nI t) s.2 p m c (ca_en F) (ca_en L) mk tk) (fun t s => 2 ≤ t ∧ s = (nI (ca_cn D t), ca_en (ca_cut (ca_dt D t) K))) 62 2 (0, ca_en K) (by omega) ?_ ?_ ?_
  · refine ⟨by omega, ?_⟩
    rw [ca_dt_2 d0 d1, ca_cn_2 d0 d1]; rfl
  · intro k s I
    obtain ⟨_, rfl⟩ := I
    rw [ca_dt_62 (fun j h => (hD j h).2)]
    exact br_t (by decide) hp
  · intro k t s ht I go
    obtain ⟨h2, rfl⟩ := I
    have hd := hm t h2 ht
    cases e : D t with
    | false =>
      refine br_f (nI_ge (b := 62) ht (by decide)) ⟨ca_i62 ht, br_t ?_ (nm_r (nI_1 t) (go _ ⟨by omega, ?_⟩))⟩
      · rw [nI_clamp (by omega), hd, ca_bi_f e]
      · rw [ca_dt_f e, ca_cn_f e]
    | true =>
      refine br_f (nI_ge (b := 62) ht (by decide)) ⟨ca_i62 ht, br_f ?_ ⟨ca_i62 ht, nm_r (e' := ca_en (ca_up (ca_cut (ca_dt D t) K) t 0)) ?_ (nm_r (nI_1 _) (nm_r (nI_1 t) (go (nI (ca_cn D t + 1), ca_en (ca_up (ca_cut (ca_dt D t) K) t 0)) ⟨by omega, ?_⟩)))⟩⟩
      · rw [nI_clamp (by omega), hd, ca_bi_t e]; decide
      · rw [nI_clamp (by omega)]; exact ca_upi _ t 0 _ rfl
      · rw [ca_dt_t e, ca_cn_t e]
theorem ya_all (T : ca_T K P M nn) (A : ca_ag K P M C p m c) {post : Int32 → SY → Prop} {f : Nat} (hf2 : f < 62)
    (hp : ∀ s, post (nI (ca_cn (ca_dm K P f) 62)) (nx, ca_en (ca_cut (ca_dm K P f) K), p, m, c, ca_en F, ca_en L, s, tk)) : ∃ n, wY_removeAll_14 post (nI f) nx n 2 (ca_en K) p m c (ca_en F) (ca_en L) mk tk := by
  refine pk_loop (fun k t (s : Nat → Int32) => wY_removeAll_14 post (nI f) nx k (nI t) (ca_en K) p m c (ca_en F) (ca_en L) s tk) (fun t s => 2 ≤ t ∧ ca_mk (ca_dm K P f) t s) 62 2 mk (by omega) ⟨by omega, fun j h1 h2 => by omega⟩ ?_ ?_
  · intro k s I
    exact br_t (by decide) (ya_disc (fun j h => by have := (ca_dm_t j).mp h; omega) I.2 (hp s))
  · intro k t s ht I go
    have st : ∀ x, x = ca_bi (ca_dm K P f t) → ca_mk (ca_dm K P f) (t + 1) (upd s (nI t).toNatClampNeg x) := by
      intro x hx
      rw [nI_clamp (by omega)]
      exact ca_mk_s I.2 hx
    refine br_f (nI_ge (b := 62) ht (by decide)) ⟨ca_i62 ht, pk_eq (K t) 0 (fun e => ⟨ca_i62 ht, nm_e (nm_r (nI_1 t) (go _ ⟨by omega, st _ ?_⟩))⟩) (fun e => ?_) (ca_ec K (by omega)) rfl (by have := ca_Tb T t; omega) (by omega)⟩
    · rw [ca_b0, ca_bi_f (ca_dm_f (fun z => z.2.2.1 e))]
    · refine ya_within T A e hf2 (fun h => br_f ca_n10 ⟨ca_i62 ht, nm_e (nm_r (nI_1 t) (go _ ⟨by omega, st _ ?_⟩))⟩) (fun h => br_t rfl ⟨ca_i62 ht, nm_e (nm_r (nI_1 t) (go _ ⟨by omega, st _ ?_⟩))⟩)
      · rw [ca_b1, ca_bi_t ((ca_dm_t t).mpr ⟨I.1, ht, e, h⟩)]
      · rw [ca_b0, ca_bi_f (ca_dm_f (fun z => by rw [h] at z; exact absurd z.2.2.2 (by decide)))]
end
end
section
/-- both states are pictures of one tree and one table of extents; the reference keeps what was of the removed -/
def i_Rel (_ : Nat) (u : SX) (v : SY) : Prop :=
  ∃ (K P M C F L U : Nat → Nat) (nx ic : Nat) (dm p m c mk tk : Nat → Int32), u = ((nI nx), (nI ic), ca_en K, ca_en P, ca_en M, ca_en C, ca_en F, ca_en L, ca_en U, dm) ∧ v = ((nI nx), ca_en K, p, m, c, ca_en F, ca_en L, mk, tk) ∧ ca_R K P M C F L U nx ic p m c
theorem i_up {k : Nat} {u : SX} {v : SY} (h : i_Rel k u v) : i_Rel (k + 4) u v := h
theorem i_vc0 : wpX_init (fun u => wpY_init (fun v => i_Rel 0 u v)) := by
  unfold wpX_init
  refine nm_r (ca_upe (fun _ => 0) 1 2) ?_
  unfold wpY_init
  refine nm_r (ca_upe (fun _ => 0) 1 2) ?_
  exact ⟨ca_up (fun _ => 0) 1 2, fun _ => 0, fun _ => 0, fun _ => 0, fun _ => 0, fun _ => 0, fun _ => 0, 2, 0, fun _ => 0, fun _ => 0, fun _ => 0, fun _ => 0, fun _ => 0, fun _ => 0, rfl, rfl, ca_R0⟩
theorem i_vc_parentOf {k : Nat} {u : SX} {v : SY} (I : i_Rel k u v) (hk : k + 4 ≤ 2048) (v1 : Int32) : wpX_parentOf (fun r => wpY_parentOf (fun r' => r' = r ∧ i_Rel (k + 4) u v) v v1) u v1 := by
  obtain ⟨K, P, M, C, F, L, U, nx, ic, dm, p, m, c, mk, tk, rfl, rfl, R⟩ := I
  have rel : i_Rel (k + 4) ((nI nx), (nI ic), ca_en K, ca_en P, ca_en M, ca_en C, ca_en F, ca_en L, ca_en U, dm) ((nI nx), ca_en K, p, m, c, ca_en F, ca_en L, mk, tk) := ⟨K, P, M, C, F, L, U, nx, ic, dm, p, m, c, mk, tk, rfl, rfl, R⟩
  have T := R.1
  have A := R.2.2.2.2
  unfold wpX_parentOf
  rcases ca_arg K v1 with ⟨i, h1, h2, rfl, hki⟩ | hm
  · by_cases e : i = 1
    · subst e
      refine xa_rnr_r T (br_f (by decide) ?_)
      unfold wpY_parentOf
      exact ya_rit_r T (br_f (by decide) ⟨rfl, rel⟩)
    · refine xa_rnr_t T (by omega) h2 hki (br_t rfl ⟨ca_i62 h2, ?_⟩)
      unfold wpY_parentOf
      refine ya_rit_t T (by omega) h2 hki (br_t (by decide) ⟨ca_i62 h2, ?_, rel⟩)
      rw [ca_ec P (by omega)]
      exact ca_rc (by omega) (A i (by omega) hki).1
  · refine xa_rnr_m hm (br_f (by decide) ?_)
    unfold wpY_parentOf
    exact ya_rit_m hm (br_f (by decide) ⟨rfl, rel⟩)
theorem i_vc_nameOf {k : Nat} {u : SX} {v : SY} (I : i_Rel k u v) (hk : k + 4 ≤ 2048) (v1 : Int32) : wpX_nameOf (fun r => wpY_nameOf (fun r' => r' = r ∧ i_Rel (k + 4) u v) v v1) u v1 := by
  obtain ⟨K, P, M, C, F, L, U, nx, ic, dm, p, m, c, mk, tk, rfl, rfl, R⟩ := I
  have rel : i_Rel (k + 4) ((nI nx), (nI ic), ca_en K, ca_en P, ca_en M, ca_en C, ca_en F, ca_en L, ca_en U, dm) ((nI nx), ca_en K, p, m, c, ca_en F, ca_en L, mk, tk) := ⟨K, P, M, C, F, L, U, nx, ic, dm, p, m, c, mk, tk, rfl, rfl, R⟩
  have T := R.1
  have A := R.2.2.2.2
  unfold wpX_nameOf
  rcases ca_arg K v1 with ⟨i, h1, h2, rfl, hki⟩ | hm
  · by_cases e : i = 1
    · subst e
      refine xa_rnr_r T (br_f (by decide) ?_)
      unfold wpY_nameOf
      exact ya_rit_r T (br_f (by decide) ⟨rfl, rel⟩)
    · refine xa_rnr_t T (by omega) h2 hki (br_t rfl ⟨ca_i62 h2, ?_⟩)
      unfold wpY_nameOf
      refine ya_rit_t T (by omega) h2 hki (br_t (by decide) ⟨ca_i62 h2, ?_, rel⟩)
      rw [ca_ec M (by omega)]
      exact ca_rc (by omega) (A i (by omega) hki).2.1
  · refine xa_rnr_m hm (br_f (by decide) ?_)
    unfold wpY_nameOf
    exact ya_rit_m hm (br_f (by decide) ⟨rfl, rel⟩)
theorem i_vc_kindOf {k : Nat} {u : SX} {v : SY} (I : i_Rel k u v) (hk : k + 4 ≤ 2048) (v1 : Int32) : wpX_kindOf (fun r => wpY_kindOf (fun r' => r' = r ∧ i_Rel (k + 4) u v) v v1) u v1 := by
  obtain ⟨K, P, M, C, F, L, U, nx, ic, dm, p, m, c, mk, tk, rfl, rfl, R⟩ := I
  have rel : i_Rel (k + 4) ((nI nx), (nI ic), ca_en K, ca_en P, ca_en M, ca_en C, ca_en F, ca_en L, ca_en U, dm) ((nI nx), ca_en K, p, m, c, ca_en F, ca_en L, mk, tk) := ⟨K, P, M, C, F, L, U, nx, ic, dm, p, m, c, mk, tk, rfl, rfl, R⟩
  have T := R.1
  unfold wpX_kindOf
  rcases ca_arg K v1 with ⟨i, h1, h2, rfl, hki⟩ | hm
  · refine xa_there_t T h1 h2 hki (br_f ca_n10 ⟨ca_i62 h2, ?_⟩)
    unfold wpY_kindOf
    exact ya_mis_f T h1 h2 hki (br_t rfl ⟨ca_i62 h2, rfl, rel⟩)
  · refine xa_there_f hm (br_t rfl ?_)
    unfold wpY_kindOf
    exact ya_mis_t hm (br_f ca_n10 ⟨rfl, rel⟩)
theorem i_vc_items {k : Nat} {u : SX} {v : SY} (I : i_Rel k u v) (hk : k + 4 ≤ 2048) : wpX_items (fun r => wpY_items (fun r' => r' = r ∧ i_Rel (k + 4) u v) v) u := by
  obtain ⟨K, P, M, C, F, L, U, nx, ic, dm, p, m, c, mk, tk, rfl, rfl, R⟩ := I
  have rel : i_Rel (k + 4) ((nI nx), (nI ic), ca_en K, ca_en P, ca_en M, ca_en C, ca_en F, ca_en L, ca_en U, dm) ((nI nx), ca_en K, p, m, c, ca_en F, ca_en L, mk, tk) := ⟨K, P, M, C, F, L, U, nx, ic, dm, p, m, c, mk, tk, rfl, rfl, R⟩
  have T := R.1
  unfold wpX_items
  refine ya_items T ⟨?_, rel⟩
  rw [← R.2.2.1.1]
theorem i_vc_entries {k : Nat} {u : SX} {v : SY} (I : i_Rel k u v) (hk : k + 4 ≤ 2048) (v1 : Int32) : wpX_entries (fun r => wpY_entries (fun r' => r' = r ∧ i_Rel (k + 4) u v) v v1) u v1 := by
  obtain ⟨K, P, M, C, F, L, U, nx, ic, dm, p, m, c, mk, tk, rfl, rfl, R⟩ := I
  have rel : i_Rel (k + 4) ((nI nx), (nI ic), ca_en K, ca_en P, ca_en M, ca_en C, ca_en F, ca_en L, ca_en U, dm) ((nI nx), ca_en K, p, m, c, ca_en F, ca_en L, mk, tk) := ⟨K, P, M, C, F, L, U, nx, ic, dm, p, m, c, mk, tk, rfl, rfl, R⟩
  have T := R.1
  have A := R.2.2.2.2
  unfold wpX_entries
  rcases ca_arg K v1 with ⟨i, h1, h2, rfl, hki⟩ | hm
  · by_cases e : K i = 2
    · refine xa_rfo_t T h2 e (br_t rfl (xa_count T h2 ?_))
      unfold wpY_entries
      exact ya_rfo_t T h2 e (br_t (by decide) (ya_ents T A h2 ⟨rfl, rel⟩))
    · have e1 : K i = 1 := by have := ca_Tb T i; omega
      refine xa_rfo_n T h2 e1 (br_f (by decide) ?_)
      unfold wpY_entries
      exact ya_rfo_n T h2 e1 (br_f (by decide) ⟨rfl, rel⟩)
  · refine xa_rfo_m hm (br_f (by decide) ?_)
    unfold wpY_entries
    exact ya_rfo_m hm (br_f (by decide) ⟨rfl, rel⟩)
theorem i_vc_entry {k : Nat} {u : SX} {v : SY} (I : i_Rel k u v) (hk : k + 4 ≤ 2048) (v1 : Int32) (v2 : Int32) : wpX_entry (fun r => wpY_entry (fun r' => r' = r ∧ i_Rel (k + 4) u v) v v1 v2) u v1 v2 := by
  obtain ⟨K, P, M, C, F, L, U, nx, ic, dm, p, m, c, mk, tk, rfl, rfl, R⟩ := I
  have rel : i_Rel (k + 4) ((nI nx), (nI ic), ca_en K, ca_en P, ca_en M, ca_en C, ca_en F, ca_en L, ca_en U, dm) ((nI nx), ca_en K, p, m, c, ca_en F, ca_en L, mk, tk) := ⟨K, P, M, C, F, L, U, nx, ic, dm, p, m, c, mk, tk, rfl, rfl, R⟩
  have T := R.1
  have A := R.2.2.2.2
  unfold wpX_entry
  rcases ca_arg K v1 with ⟨i, h1, h2, rfl, hki⟩ | hm
  · by_cases e : K i = 2
    · refine xa_rfo_t T h2 e (br_t rfl (xa_entry T h2 (fun r hr he => ?_) (fun hn => ?_)))
      · unfold wpY_entry
        refine ya_rfo_t T h2 e (br_t (by decide) (ya_entry T A h2 (fun s hs he2 => ⟨?_, rel⟩) (fun hn => (hn r hr he).elim)))
        rw [ca_rk_u T hs hr (he2.trans he.symm)]
      · unfold wpY_entry
        exact ya_rfo_t T h2 e (br_t (by decide) (ya_entry T A h2 (fun s hs he2 => (hn s hs he2).elim) (fun _ => ⟨rfl, rel⟩)))
    · have e1 : K i = 1 := by have := ca_Tb T i; omega
      refine xa_rfo_n T h2 e1 (br_f (by decide) ?_)
      unfold wpY_entry
      exact ya_rfo_n T h2 e1 (br_f (by decide) ⟨rfl, rel⟩)
  · refine xa_rfo_m hm (br_f (by decide) ?_)
    unfold wpY_entry
    exact ya_rfo_m hm (br_f (by decide) ⟨rfl, rel⟩)
theorem i_vc_find {k : Nat} {u : SX} {v : SY} (I : i_Rel k u v) (hk : k + 4 ≤ 2048) (v1 : Int32) (v2 : Int32) : wpX_find (fun r => wpY_find (fun r' => r' = r ∧ i_Rel (k + 4) u v) v v1 v2) u v1 v2 := by
  obtain ⟨K, P, M, C, F, L, U, nx, ic, dm, p, m, c, mk, tk, rfl, rfl, R⟩ := I
  have rel : i_Rel (k + 4) ((nI nx), (nI ic), ca_en K, ca_en P, ca_en M, ca_en C, ca_en F, ca_en L, ca_en U, dm) ((nI nx), ca_en K, p, m, c, ca_en F, ca_en L, mk, tk) := ⟨K, P, M, C, F, L, U, nx, ic, dm, p, m, c, mk, tk, rfl, rfl, R⟩
  have T := R.1
  have A := R.2.2.2.2
  unfold wpX_find
  rcases ca_arg K v1 with ⟨i, h1, h2, rfl, hki⟩ | hm
  · by_cases e : K i = 2
    · rcases ca_nam v2 with ⟨n, hn, rfl⟩ | hw
      · refine xa_rpl_t T h2 e hn (br_t rfl (xa_named T h2 hn (fun r hr => ?_)))
        rcases ca_lk_b hr with e0 | e0
        · rw [e0] at hr
          rw [e0]
          refine br_t rfl ?_
          unfold wpY_find
          refine ya_rfo_t T h2 e (br_t (by decide) (ya_bad_f hn (br_t rfl (ya_look T A h2 hn (fun s hs => ?_)))))
          rw [ca_lk_u T hs hr]
          exact br_t (by decide) ⟨rfl, rel⟩
        · refine br_f (nI_ne0 (by omega) (by omega)) ?_
          unfold wpY_find
          refine ya_rfo_t T h2 e (br_t (by decide) (ya_bad_f hn (br_t rfl (ya_look T A h2 hn (fun s hs => ?_)))))
          rw [ca_lk_u T hs hr]
          exact br_f (nI_nle (by omega) (by omega)) ⟨rfl, rel⟩
      · refine xa_rpl_b T h2 e hw (br_f (by decide) ?_)
        unfold wpY_find
        exact ya_rfo_t T h2 e (br_t (by decide) (ya_bad_t hw (br_f ca_n10 ⟨rfl, rel⟩)))
    · have e1 : K i = 1 := by have := ca_Tb T i; omega
      refine xa_rpl_n T h2 e1 (br_f (by decide) ?_)
      unfold wpY_find
      exact ya_rfo_n T h2 e1 (br_f (by decide) ⟨rfl, rel⟩)
  · refine xa_rpl_m hm (br_f (by decide) ?_)
    unfold wpY_find
    exact ya_rfo_m hm (br_f (by decide) ⟨rfl, rel⟩)
theorem i_vc_blocks {k : Nat} {u : SX} {v : SY} (I : i_Rel k u v) (hk : k + 4 ≤ 2048) (v1 : Int32) : wpX_blocks (fun r => wpY_blocks (fun r' => r' = r ∧ i_Rel (k + 4) u v) v v1) u v1 := by
  obtain ⟨K, P, M, C, F, L, U, nx, ic, dm, p, m, c, mk, tk, rfl, rfl, R⟩ := I
  have rel : i_Rel (k + 4) ((nI nx), (nI ic), ca_en K, ca_en P, ca_en M, ca_en C, ca_en F, ca_en L, ca_en U, dm) ((nI nx), ca_en K, p, m, c, ca_en F, ca_en L, mk, tk) := ⟨K, P, M, C, F, L, U, nx, ic, dm, p, m, c, mk, tk, rfl, rfl, R⟩
  have T := R.1
  have B := R.2.1
  have A := R.2.2.2.2
  unfold wpX_blocks
  rcases ca_arg K v1 with ⟨i, h1, h2, rfl, hki⟩ | hm
  · by_cases e : K i = 1
    · have h3 : 2 ≤ i := by
        by_cases z : i = 1
        · rw [z, T.1.2.1] at e; omega
        · omega
      refine xa_rfi_t T h2 e (br_t rfl (xa_blocks B h2 ?_))
      unfold wpY_blocks
      exact ya_rfi_t T h2 e (br_t (by decide) (ya_blocks h2 (A i h3 hki).2.2 (B.1 i) ⟨rfl, rel⟩))
    · have e1 : K i = 2 := by have := ca_Tb T i; omega
      refine xa_rfi_n T h2 e1 (br_f (by decide) ?_)
      unfold wpY_blocks
      exact ya_rfi_n T h2 e1 (br_f (by decide) ⟨rfl, rel⟩)
  · refine xa_rfi_m hm (br_f (by decide) ?_)
    unfold wpY_blocks
    exact ya_rfi_m hm (br_f (by decide) ⟨rfl, rel⟩)
theorem i_vc_blockAt {k : Nat} {u : SX} {v : SY} (I : i_Rel k u v) (hk : k + 4 ≤ 2048) (v1 : Int32) (v2 : Int32) : wpX_blockAt (fun r => wpY_blockAt (fun r' => r' = r ∧ i_Rel (k + 4) u v) v v1 v2) u v1 v2 := by
  obtain ⟨K, P, M, C, F, L, U, nx, ic, dm, p, m, c, mk, tk, rfl, rfl, R⟩ := I
  have rel : i_Rel (k + 4) ((nI nx), (nI ic), ca_en K, ca_en P, ca_en M, ca_en C, ca_en F, ca_en L, ca_en U, dm) ((nI nx), ca_en K, p, m, c, ca_en F, ca_en L, mk, tk) := ⟨K, P, M, C, F, L, U, nx, ic, dm, p, m, c, mk, tk, rfl, rfl, R⟩
  have T := R.1
  have B := R.2.1
  have A := R.2.2.2.2
  unfold wpX_blockAt
  rcases ca_arg K v1 with ⟨i, h1, h2, rfl, hki⟩ | hm
  · by_cases e : K i = 1
    · have h3 : 2 ≤ i := by
        by_cases z : i = 1
        · rw [z, T.1.2.1] at e; omega
        · omega
      refine xa_rfi_t T h2 e (br_t rfl ?_)
      by_cases hv : v2 < 0
      · refine br_f (fun z => Int32.not_lt.mpr z hv) ?_
        unfold wpY_blockAt
        exact ya_rfi_t T h2 e (br_t (by decide) (ya_blockAtN h2 hv ⟨rfl, rel⟩))
      · refine br_t (Int32.not_lt.mp hv) ?_
        obtain ⟨x, hx, rfl⟩ := nI_of hv
        refine xa_blockAt B h2 hx ?_
        unfold wpY_blockAt
        exact ya_rfi_t T h2 e (br_t (by decide) (ya_blockAt B h2 (A i h3 hki).2.2 hx ⟨rfl, rel⟩))
    · have e1 : K i = 2 := by have := ca_Tb T i; omega
      refine xa_rfi_n T h2 e1 (br_f (by decide) ?_)
      unfold wpY_blockAt
      exact ya_rfi_n T h2 e1 (br_f (by decide) ⟨rfl, rel⟩)
  · refine xa_rfi_m hm (br_f (by decide) ?_)
    unfold wpY_blockAt
    exact ya_rfi_m hm (br_f (by decide) ⟨rfl, rel⟩)
theorem i_vc_free {k : Nat} {u : SX} {v : SY} (I : i_Rel k u v) (hk : k + 4 ≤ 2048) : wpX_free (fun r => wpY_free (fun r' v' => r' = r ∧ i_Rel (k + 4) u v') v) u := by
  obtain ⟨K, P, M, C, F, L, U, nx, ic, dm, p, m, c, mk, tk, rfl, rfl, R⟩ := I
  have T := R.1
  have B := R.2.1
  have hC := R.2.2.2.1
  have A := R.2.2.2.2
  refine xa_free B.2.2.2.1 ?_
  unfold wpY_free
  refine ya_note T B A hC (fun s hs => ya_free8 B.2.2.2.1 hs ⟨rfl, ?_⟩)
  exact ⟨K, P, M, C, F, L, U, nx, ic, dm, p, m, c, mk, s, rfl, rfl, R⟩
end
section
theorem i_vc_shrink {k : Nat} {u : SX} {v : SY} (I : i_Rel k u v) (hk : k + 4 ≤ 2048) (v1 : Int32) : wpX_shrink (fun r u' => wpY_shrink (fun r' v' => r' = r ∧ i_Rel (k + 4) u' v') v v1) u v1 := by
  obtain ⟨K, P, M, C, F, L, U, nx, ic, dm, p, m, c, mk, tk, rfl, rfl, R⟩ := I
  have rel : i_Rel (k + 4) ((nI nx), (nI ic), ca_en K, ca_en P, ca_en M, ca_en C, ca_en F, ca_en L, ca_en U, dm) ((nI nx), ca_en K, p, m, c, ca_en F, ca_en L, mk, tk) := ⟨K, P, M, C, F, L, U, nx, ic, dm, p, m, c, mk, tk, rfl, rfl, R⟩
  have T := R.1
  have B := R.2.1
  have A := R.2.2.2.2
  unfold wpX_shrink
  rcases ca_arg K v1 with ⟨i, h1, h2, rfl, hki⟩ | hm
  · by_cases e : K i = 1
    · have h3 : 2 ≤ i := by
        by_cases z : i = 1
        · rw [z, T.1.2.1] at e; omega
        · omega
      have h6 := B.1 i
      have hci : c (nI i).toNatClampNeg = nI (C i) := ca_rc (by omega) (A i h3 hki).2.2
      refine xa_rfi_t T h2 e (br_t rfl ⟨ca_i62 h2, pk_eq (C i) 0 (fun e0 => ?_) (fun e0 => ?_) (ca_ec C (by omega)) rfl (by omega) (by omega)⟩)
      · unfold wpY_shrink
        exact ya_rfi_t T h2 e (br_t (by decide) ⟨ca_i62 h2, br_t (by rw [hci, e0]; rfl) ⟨rfl, rel⟩⟩)
      · obtain ⟨q, hq⟩ : ∃ q, C i = q + 1 := ⟨C i - 1, by omega⟩
        refine xa_drop B h2 hq ?_
        have e1 : upd c (nI i).toNatClampNeg (c (nI i).toNatClampNeg - 1) = upd c i (nI q) := by
          rw [hci, hq, nI_pred, nI_clamp (by omega)]
        have e2 : 6 * nI i + upd c i (nI q) (nI i).toNatClampNeg = nI (i * 6 + q) := by
          rw [nI_clamp (by omega), pk_us, show (6 : Int32) = nI 6 from rfl, pk_mul, nI_add, Nat.mul_comm]
        unfold wpY_shrink
        refine ya_rfi_t T h2 e (br_t (by decide) ⟨ca_i62 h2, br_f (by rw [hci]; exact nI_ne0 (by omega) (by omega)) ⟨ca_i62 h2, ca_i62 h2, nm_r e1 ⟨ca_i62 h2, by rw [e2]; exact vp_in_nI (by omega) (by decide), ?_, ?_⟩⟩⟩)
        · rw [e2, ca_ec L (by omega)]
        · exact ⟨K, P, M, _, F, L, _, nx, ic, dm, p, m, _, mk, tk, rfl, rfl, ca_R_shr R h3 e hq⟩
    · have e1 : K i = 2 := by have := ca_Tb T i; omega
      refine xa_rfi_n T h2 e1 (br_f (by decide) ?_)
      unfold wpY_shrink
      exact ya_rfi_n T h2 e1 (br_f (by decide) ⟨rfl, rel⟩)
  · refine xa_rfi_m hm (br_f (by decide) ?_)
    unfold wpY_shrink
    exact ya_rfi_m hm (br_f (by decide) ⟨rfl, rel⟩)
theorem ca_ff_u {U : Nat → Nat} {l a b : Nat} (ha : ca_ff U l a) (la : ∀ d, d < a → ¬ ca_ff U l d) (hb : ca_ff U l b) (lb : ∀ d, d < b → ¬ ca_ff U l d) : a = b := by
  by_cases x : a < b
  · exact (lb a x ha).elim
  · by_cases y : b < a
    · exact (la b y hb).elim
    · omega
theorem i_vc_extend {k : Nat} {u : SX} {v : SY} (I : i_Rel k u v) (hk : k + 4 ≤ 2048) (v1 : Int32) (v2 : Int32) : wpX_extend (fun r u' => wpY_extend (fun r' v' => r' = r ∧ i_Rel (k + 4) u' v') v v1 v2) u v1 v2 := by
  obtain ⟨K, P, M, C, F, L, U, nx, ic, dm, p, m, c, mk, tk, rfl, rfl, R⟩ := I
  have rel : i_Rel (k + 4) ((nI nx), (nI ic), ca_en K, ca_en P, ca_en M, ca_en C, ca_en F, ca_en L, ca_en U, dm) ((nI nx), ca_en K, p, m, c, ca_en F, ca_en L, mk, tk) := ⟨K, P, M, C, F, L, U, nx, ic, dm, p, m, c, mk, tk, rfl, rfl, R⟩
  have T := R.1
  have B := R.2.1
  have hC := R.2.2.2.1
  have A := R.2.2.2.2
  unfold wpX_extend
  rcases ca_arg K v1 with ⟨i, h1, h2, rfl, hki⟩ | hm
  · by_cases e : K i = 1
    · have h3 : 2 ≤ i := by
        by_cases z : i = 1
        · rw [z, T.1.2.1] at e; omega
        · omega
      have h6 := B.1 i
      have hc := (A i h3 hki).2.2
      have hci : c (nI i).toNatClampNeg = nI (C i) := ca_rc (by omega) hc
      refine xa_rfi_t T h2 e (br_t rfl ?_)
      rcases ca_len v2 with ⟨l, l1, l2, rfl⟩ | hw | ⟨hw1, hw2⟩
      · have a1 : ¬ nI l < 1 := nI_nlt (b := 1) l1 (by omega)
        have a2 : nI l ≤ 32 := nI_le (b := 32) l2 (by decide)
        refine br_f a1 (br_t a2 ⟨ca_i62 h2, pk_lt (C i) 6 (fun hl => ?_) (fun hl => ?_) (ca_ec C (by omega)) rfl (by omega) (by omega)⟩)
        · have c6 : ¬ c (nI i).toNatClampNeg = 6 := by
            rw [hci]
            exact fun z => by
              have := (nI_eq (b := 6) (by omega) (by decide)).mp z
              omega
          refine xa_run l1 l2 B.2.2.2.1 (fun a ha la => ?_) (fun hn => ?_)
          · have na : ¬ nI a = -11 := by
              intro z
              have h0 := nI_pos (n := a) (by have := ha.1; omega)
              rw [z] at h0
              exact h0 (by decide)
            refine br_f na (xa_add B h2 hl ha.1 ?_)
            unfold wpY_extend
            refine ya_rfi_t T h2 e (br_t (by decide) (br_f a1 (br_t a2 ⟨ca_i62 h2, br_f c6 (ya_note T B A hC (fun s hs => ya_ext h2 hc hl l1 l2 B.2.2.2.1 hs (fun b hb lb => ?_) (fun hn => (hn a ha).elim)))⟩)))
            rw [ca_ff_u hb lb ha la]
            exact ⟨rfl, K, P, M, _, _, _, _, nx, ic, dm, p, m, _, mk, s, rfl, rfl, ca_R_ext R h3 e hl l1 l2 ha⟩
          · refine br_t rfl ?_
            unfold wpY_extend
            refine ya_rfi_t T h2 e (br_t (by decide) (br_f a1 (br_t a2 ⟨ca_i62 h2, br_f c6 (ya_note T B A hC (fun s hs => ya_ext h2 hc hl l1 l2 B.2.2.2.1 hs (fun b hb lb => (hn b hb).elim) (fun _ => ⟨rfl, ?_⟩)))⟩)))
            exact ⟨K, P, M, C, F, L, U, nx, ic, dm, p, m, c, mk, s, rfl, rfl, R⟩
        · have c6 : c (nI i).toNatClampNeg = 6 := by
            rw [hci, show C i = 6 by omega]; rfl
          unfold wpY_extend
          exact ya_rfi_t T h2 e (br_t (by decide) (br_f a1 (br_t a2 ⟨ca_i62 h2, br_t c6 ⟨rfl, rel⟩⟩)))
      · refine br_t hw ?_
        unfold wpY_extend
        exact ya_rfi_t T h2 e (br_t (by decide) (br_t hw ⟨rfl, rel⟩))
      · refine br_f hw1 (br_f hw2 ?_)
        unfold wpY_extend
        exact ya_rfi_t T h2 e (br_t (by decide) (br_f hw1 (br_f hw2 ⟨rfl, rel⟩)))
    · have e1 : K i = 2 := by have := ca_Tb T i; omega
      refine xa_rfi_n T h2 e1 (br_f (by decide) ?_)
      unfold wpY_extend
      exact ya_rfi_n T h2 e1 (br_f (by decide) ⟨rfl, rel⟩)
  · refine xa_rfi_m hm (br_f (by decide) ?_)
    unfold wpY_extend
    exact ya_rfi_m hm (br_f (by decide) ⟨rfl, rel⟩)
theorem i_vc_remove {k : Nat} {u : SX} {v : SY} (I : i_Rel k u v) (hk : k + 4 ≤ 2048) (v1 : Int32) : wpX_remove (fun r u' => wpY_remove (fun r' v' => r' = r ∧ i_Rel (k + 4) u' v') v v1) u v1 := by
  obtain ⟨K, P, M, C, F, L, U, nx, ic, dm, p, m, c, mk, tk, rfl, rfl, R⟩ := I
  have rel : i_Rel (k + 4) ((nI nx), (nI ic), ca_en K, ca_en P, ca_en M, ca_en C, ca_en F, ca_en L, ca_en U, dm) ((nI nx), ca_en K, p, m, c, ca_en F, ca_en L, mk, tk) := ⟨K, P, M, C, F, L, U, nx, ic, dm, p, m, c, mk, tk, rfl, rfl, R⟩
  have T := R.1
  have B := R.2.1
  have A := R.2.2.2.2
  unfold wpX_remove
  rcases ca_arg K v1 with ⟨i, h1, h2, rfl, hki⟩ | hm
  · by_cases e : i = 1
    · subst e
      refine xa_rnr_r T (br_f (by decide) ?_)
      unfold wpY_remove
      exact ya_rit_r T (br_f (by decide) ⟨rfl, rel⟩)
    · have h3 : 2 ≤ i := by omega
      have hcl : ca_cn (ca_nc K P i) 62 ≤ 62 := ca_cn_le 62
      refine xa_rnr_t T h3 h2 hki (br_t rfl (xa_count T h2 (pk_le (ca_cn (ca_nc K P i) 62) 0 (fun hz => ?_) (fun hz => ?_) rfl rfl (by omega) (by omega))))
      · refine xa_discard B h2 (fun V hV => ?_)
        have hz0 : ca_cn (ca_nc K P i) 62 = 0 := by omega
        obtain ⟨g1, g2⟩ := ca_R_rm R h3 hki hz0 hV
        have ei : nI ic - 1 = nI (ic - 1) := pk_sub (b := 1) g1
        have ek : upd (ca_en K) (nI i).toNatClampNeg 0 = ca_en (ca_up K i 0) := by
          rw [nI_clamp (by omega)]; exact ca_upi K i 0 _ rfl
        unfold wpY_remove
        refine ya_rit_t T h3 h2 hki (br_t (by decide) ⟨ca_i62 h2, ?_⟩)
        rw [ei]
        refine br_c (fun z => ?_) (fun z => ⟨ca_i62 h2, nm_r ek ⟨rfl, _, _, _, _, _, _, _, _, _, _, _, _, _, _, _, rfl, rfl, g2⟩⟩)
        have hk2 : K i = 2 := by
          rw [ca_ec K (by omega)] at z
          exact (nI_eq (b := 2) (by have := ca_Tb T i; omega) (by decide)).mp z
        unfold wpY_entries
        refine ya_rfo_t T h2 hk2 (br_t (by decide) (ya_ents T A h2 ?_))
        rw [hz0]
        exact br_t (by decide) ⟨ca_i62 h2, nm_r ek ⟨rfl, _, _, _, _, _, _, _, _, _, _, _, _, _, _, _, rfl, rfl, g2⟩⟩
      · unfold wpY_remove
        refine ya_rit_t T h3 h2 hki (br_t (by decide) ⟨ca_i62 h2, ?_⟩)
        have hk2 : K i = 2 := by
          by_cases z : K i = 2
          · exact z
          · have := ca_nc_1 T z; omega
        refine br_t (by rw [ca_ec K (by omega), hk2]; rfl) ?_
        unfold wpY_entries
        exact ya_rfo_t T h2 hk2 (br_t (by decide) (ya_ents T A h2 (br_f (nI_nle (by omega) (by omega)) ⟨rfl, rel⟩)))
  · refine xa_rnr_m hm (br_f (by decide) ?_)
    unfold wpY_remove
    exact ya_rit_m hm (br_f (by decide) ⟨rfl, rel⟩)
theorem i_vc_removeAll {k : Nat} {u : SX} {v : SY} (I : i_Rel k u v) (hk : k + 4 ≤ 2048) (v1 : Int32) : wpX_removeAll (fun r u' => wpY_removeAll (fun r' v' => r' = r ∧ i_Rel (k + 4) u' v') v v1) u v1 := by
  obtain ⟨K, P, M, C, F, L, U, nx, ic, dm, p, m, c, mk, tk, rfl, rfl, R⟩ := I
  have rel : i_Rel (k + 4) ((nI nx), (nI ic), ca_en K, ca_en P, ca_en M, ca_en C, ca_en F, ca_en L, ca_en U, dm) ((nI nx), ca_en K, p, m, c, ca_en F, ca_en L, mk, tk) := ⟨K, P, M, C, F, L, U, nx, ic, dm, p, m, c, mk, tk, rfl, rfl, R⟩
  have T := R.1
  have B := R.2.1
  have A := R.2.2.2.2
  unfold wpX_removeAll
  rcases ca_arg K v1 with ⟨i, h1, h2, rfl, hki⟩ | hm
  · by_cases e : i = 1
    · subst e
      refine xa_rnr_r T (br_f (by decide) ?_)
      unfold wpY_removeAll
      exact ya_rit_r T (br_f (by decide) ⟨rfl, rel⟩)
    · have h3 : 2 ≤ i := by omega
      refine xa_rnr_t T h3 h2 hki (br_t rfl (xa_mark T h3 h2 (fun s hs => xa_discM B (D := ca_dm K P i) R.2.2.1.1 (fun j hj => ?_) hs (fun V jd hV hj => ?_))))
      · have := (ca_dm_t j).mp hj
        exact ⟨this.1, this.2.1, this.2.2.1⟩
      · unfold wpY_removeAll
        refine ya_rit_t T h3 h2 hki (br_t (by decide) (ya_all T A h2 (fun t => ⟨rfl, ?_⟩)))
        exact ⟨_, _, _, _, _, _, _, _, _, _, _, _, _, _, _, rfl, rfl, ca_R_all R h3 ca_dm_t hV hj⟩
  · refine xa_rnr_m hm (br_f (by decide) ?_)
    unfold wpY_removeAll
    exact ya_rit_m hm (br_f (by decide) ⟨rfl, rel⟩)
end
section
theorem i_vc_move {k : Nat} {u : SX} {v : SY} (I : i_Rel k u v) (hk : k + 4 ≤ 2048) (v1 : Int32) (v2 : Int32) (v3 : Int32) : wpX_move (fun r u' => wpY_move (fun r' v' => r' = r ∧ i_Rel (k + 4) u' v') v v1 v2 v3) u v1 v2 v3 := by
  obtain ⟨K, P, M, C, F, L, U, nx, ic, dm, p, m, c, mk, tk, rfl, rfl, R⟩ := I
  have rel : i_Rel (k + 4) ((nI nx), (nI ic), ca_en K, ca_en P, ca_en M, ca_en C, ca_en F, ca_en L, ca_en U, dm) ((nI nx), ca_en K, p, m, c, ca_en F, ca_en L, mk, tk) := ⟨K, P, M, C, F, L, U, nx, ic, dm, p, m, c, mk, tk, rfl, rfl, R⟩
  have T := R.1
  have A := R.2.2.2.2
  unfold wpX_move
  rcases ca_arg K v1 with ⟨i, h1, h2, rfl, hki⟩ | hm
  · by_cases e : i = 1
    · subst e
      refine xa_rnr_r T (br_f (by decide) ?_)
      unfold wpY_move
      exact ya_rit_r T (br_f (by decide) ⟨rfl, rel⟩)
    · have h3 : 2 ≤ i := by omega
      refine xa_rnr_t T h3 h2 hki (br_t rfl ?_)
      rcases ca_arg K v2 with ⟨f, f1, f2, rfl, hkf⟩ | hmf
      · by_cases ef : K f = 2
        · rcases ca_nam v3 with ⟨n, hn, rfl⟩ | hw
          · refine xa_rpl_t T f2 ef hn (br_t rfl (xa_within T hkf h3 h2 (fun w => br_f ca_n10 ?_) (fun w => br_t rfl (xa_named T f2 hn (fun r hr => ?_)))))
            · unfold wpY_move
              refine ya_rit_t T h3 h2 hki (br_t (by decide) (ya_rfo_t T f2 ef (br_t (by decide) (ya_bad_f hn (br_t rfl (ya_within T A hkf h2 (fun w2 => br_f ca_n10 ⟨rfl, rel⟩) (fun w2 => ?_)))))))
              rw [w] at w2
              exact absurd w2 (by decide)
            · have eu : ∀ (g : Nat → Nat) (x : Nat), upd (ca_en g) (nI i).toNatClampNeg (nI x) = ca_en (ca_up g i x) := by
                intro g x
                rw [nI_clamp (by omega), ca_upe]
              have er : ∀ (g : Nat → Int32) (x : Int32), upd g (nI i).toNatClampNeg x = upd g i x := by
                intro g x
                rw [nI_clamp (by omega)]
              have ydo : ∀ (Q : Int32 → SY → Prop), (∀ r, ca_lk K P M f n r → (((nI r ≤ 0 → wY_move_74 Q (nI i) (nI f) (nI n) (nI nx) (ca_en K) p m c (ca_en F) (ca_en L) mk tk) ∧ (¬ nI r ≤ 0 → ((nI r = nI i → wY_move_74 Q (nI i) (nI f) (nI n) (nI nx) (ca_en K) p m c (ca_en F) (ca_en L) mk tk) ∧ (¬ nI r = nI i → Q (-4) ((nI nx), ca_en K, p, m, c, ca_en F, ca_en L, mk, tk))))))) → wpY_move Q ((nI nx), ca_en K, p, m, c, ca_en F, ca_en L, mk, tk) (nI i) (nI f) (nI n) := by
                intro Q hQ
                unfold wpY_move
                refine ya_rit_t T h3 h2 hki (br_t (by decide) (ya_rfo_t T f2 ef (br_t (by decide) (ya_bad_f hn (br_t rfl (ya_within T A hkf h2 (fun w2 => ?_) (fun w2 => br_t rfl (ya_look T A f2 hn hQ))))))))
                rw [w] at w2
                exact absurd w2 (by decide)
              have good : (∀ j, ca_ch K P f j → j ≠ i → M j ≠ n) → i_Rel (k + 4) ((nI nx), (nI ic), ca_en K, ca_en (ca_up P i f), ca_en (ca_up M i n), ca_en C, ca_en F, ca_en L, ca_en U, dm) ((nI nx), ca_en K, (upd p i (nI f)), (upd m i (nI n)), c, ca_en F, ca_en L, mk, tk) := by
                intro hu
                exact ⟨_, _, _, _, _, _, _, _, _, _, _, _, _, _, _, rfl, rfl, ca_R_move R h3 hki ef hn w hu⟩
              rcases ca_lk_b hr with e0 | e0
              · rw [e0] at hr
                have hu : ∀ j, ca_ch K P f j → j ≠ i → M j ≠ n := by
                  rcases hr with hr | hr
                  · exact fun j hj _ => hr.2 j hj
                  · have := hr.1.1; omega
                rw [e0]
                refine br_t rfl ⟨ca_i62 h2, nm_r (eu P f) ⟨ca_i62 h2, nm_r (eu M n) ?_⟩⟩
                refine ydo _ (fun s hs => ?_)
                rw [ca_lk_u T hs hr]
                exact br_t (by decide) ⟨ca_i62 h2, nm_r (er p _) ⟨ca_i62 h2, nm_r (er m _) ⟨rfl, good hu⟩⟩⟩
              · have hc : ca_ch K P f r ∧ M r = n := by
                  rcases hr with hr | hr
                  · omega
                  · exact hr
                by_cases ei : r = i
                · have hu : ∀ j, ca_ch K P f j → j ≠ i → M j ≠ n := by
                    intro j hj hji z
                    have := ca_lk_u T (Or.inr ⟨hj, z⟩) hr
                    omega
                  refine br_f (nI_ne0 (by omega) (by omega)) (br_t (by rw [ei]) ⟨ca_i62 h2, nm_r (eu P f) ⟨ca_i62 h2, nm_r (eu M n) ?_⟩⟩)
                  refine ydo _ (fun s hs => ?_)
                  rw [ca_lk_u T hs hr]
                  exact br_f (nI_nle (by omega) (by omega)) (br_t (by rw [ei]) ⟨ca_i62 h2, nm_r (er p _) ⟨ca_i62 h2, nm_r (er m _) ⟨rfl, good hu⟩⟩⟩)
                · have ni : ¬ nI r = nI i := fun z => ei ((nI_eq (by omega) (by omega)).mp z)
                  refine br_f (nI_ne0 (by omega) (by omega)) (br_f ni ?_)
                  refine ydo _ (fun s hs => ?_)
                  rw [ca_lk_u T hs hr]
                  exact br_f (nI_nle (by omega) (by omega)) (br_f ni ⟨rfl, rel⟩)
          · refine xa_rpl_b T f2 ef hw (br_f (by decide) ?_)
            unfold wpY_move
            exact ya_rit_t T h3 h2 hki (br_t (by decide) (ya_rfo_t T f2 ef (br_t (by decide) (ya_bad_t hw (br_f ca_n10 ⟨rfl, rel⟩)))))
        · have e1 : K f = 1 := by have := ca_Tb T f; omega
          refine xa_rpl_n T f2 e1 (br_f (by decide) ?_)
          unfold wpY_move
          exact ya_rit_t T h3 h2 hki (br_t (by decide) (ya_rfo_n T f2 e1 (br_f (by decide) ⟨rfl, rel⟩)))
      · refine xa_rpl_m hmf (br_f (by decide) ?_)
        unfold wpY_move
        exact ya_rit_t T h3 h2 hki (br_t (by decide) (ya_rfo_m hmf (br_f (by decide) ⟨rfl, rel⟩)))
  · refine xa_rnr_m hm (br_f (by decide) ?_)
    unfold wpY_move
    exact ya_rit_m hm (br_f (by decide) ⟨rfl, rel⟩)
theorem i_vc_make {k : Nat} {u : SX} {v : SY} (I : i_Rel k u v) (hk : k + 4 ≤ 2048) (v1 : Int32) (v2 : Int32) (v3 : Int32) : wpX_make (fun r u' => wpY_make (fun r' v' => r' = r ∧ i_Rel (k + 4) u' v') v v1 v2 (lw_bz v3)) u v1 v2 (lw_bz v3) := by
  obtain ⟨K, P, M, C, F, L, U, nx, ic, dm, p, m, c, mk, tk, rfl, rfl, R⟩ := I
  have rel : i_Rel (k + 4) ((nI nx), (nI ic), ca_en K, ca_en P, ca_en M, ca_en C, ca_en F, ca_en L, ca_en U, dm) ((nI nx), ca_en K, p, m, c, ca_en F, ca_en L, mk, tk) := ⟨K, P, M, C, F, L, U, nx, ic, dm, p, m, c, mk, tk, rfl, rfl, R⟩
  have T := R.1
  have A := R.2.2.2.2
  have hic := R.2.2.1
  have tn := T.2.1
  generalize lw_bz v3 = z3
  unfold wpX_make
  rcases ca_arg K v1 with ⟨f, f1, f2, rfl, hkf⟩ | hm
  · by_cases ef : K f = 2
    · rcases ca_nam v2 with ⟨n, hn, rfl⟩ | hw
      · refine xa_rpl_t T f2 ef hn (br_t rfl (xa_named T f2 hn (fun r hr => ?_)))
        have ydo : ∀ (Q : Int32 → SY → Prop), ((r = 0 → ((nI ic = 24 → Q (-5) ((nI nx), ca_en K, p, m, c, ca_en F, ca_en L, mk, tk)) ∧ (¬ nI ic = 24 → ((nI nx = 62 → Q (-5) ((nI nx), ca_en K, p, m, c, ca_en F, ca_en L, mk, tk)) ∧ (¬ nI nx = 62 → ((z3 = 0 → wY_make_75 Q (nI f) (nI n) 1 (nI nx) (nI nx) (ca_en K) p m c (ca_en F) (ca_en L) mk tk) ∧ (¬ z3 = 0 → wY_make_75 Q (nI f) (nI n) 2 (nI nx) (nI nx) (ca_en K) p m c (ca_en F) (ca_en L) mk tk))))))) ∧ (r ≠ 0 → Q (-4) ((nI nx), ca_en K, p, m, c, ca_en F, ca_en L, mk, tk))) → wpY_make Q ((nI nx), ca_en K, p, m, c, ca_en F, ca_en L, mk, tk) (nI f) (nI n) z3 := by
          intro Q hQ
          unfold wpY_make
          refine ya_rfo_t T f2 ef (br_t (by decide) (ya_bad_f hn (br_t rfl (ya_look T A f2 hn (fun s hs => ?_)))))
          rw [ca_lk_u T hs hr]
          have hb := ca_lk_b hr
          refine pk_le r 0 (fun h0 => ya_items T ?_) (fun h0 => hQ.2 (by omega)) rfl rfl (by omega) (by omega)
          rw [← hic.1]
          exact hQ.1 (by omega)
        rcases ca_lk_b hr with e0 | e0
        · have hu : ∀ j, ca_ch K P f j → M j ≠ n := by
            rcases hr with hr | hr
            · exact hr.2
            · have := hr.1.1; omega
          refine br_t (by rw [e0]; rfl) ?_
          refine pk_le 24 ic (fun hi => ?_) (fun hi => ?_) rfl rfl (by omega) (by omega)
          · have e24 : ic = 24 := by omega
            exact ydo _ ⟨fun _ => br_t (by rw [e24]; rfl) ⟨rfl, rel⟩, fun z => (z e0).elim⟩
          · have n24 : ¬ nI ic = 24 := fun z => by
              have := (nI_eq (b := 24) (by omega) (by decide)).mp z
              omega
            refine pk_le nx 61 (fun hx => ?_) (fun hx => ?_) rfl rfl (by omega) (by omega)
            · have n62 : ¬ nI nx = 62 := fun z => by
                have := (nI_eq (b := 62) (by omega) (by decide)).mp z
                omega
              have hv : vp_in (nI nx) 62 := ca_i62 (by omega)
              have eu : ∀ (g : Nat → Nat) (x : Nat), upd (ca_en g) (nI nx).toNatClampNeg (nI x) = ca_en (ca_up g nx x) := by
                intro g x
                rw [nI_clamp (by omega), ca_upe]
              have er : ∀ (g : Nat → Int32) (x : Int32), upd g (nI nx).toNatClampNeg x = upd g nx x := by
                intro g x
                rw [nI_clamp (by omega)]
              have good : ∀ kd, kd = 1 ∨ kd = 2 → i_Rel (k + 4) ((nI (nx + 1)), (nI (ic + 1)), ca_en (ca_up K nx kd), ca_en (ca_up P nx f), ca_en (ca_up M nx n), ca_en C, ca_en F, ca_en L, ca_en U, dm) ((nI (nx + 1)), ca_en (ca_up K nx kd), (upd p nx (nI f)), (upd m nx (nI n)), (upd c nx (nI 0)), ca_en F, ca_en L, mk, tk) := by
                intro kd hkd
                exact ⟨_, _, _, _, _, _, _, _, _, _, _, _, _, _, _, rfl, rfl, ca_R_make R ef hn hx (by omega) hkd hu⟩
              refine nm_r (nI_1 nx) (nm_r (nI_1 ic) ?_)
              by_cases h3 : z3 = 0
              · refine br_t h3 ⟨hv, nm_r (eu K 1) ⟨hv, nm_r (eu P f) ⟨hv, nm_r (eu M n) ?_⟩⟩⟩
                refine ydo _ ⟨fun _ => br_f n24 (br_f n62 (br_t h3 ⟨hv, nm_r (eu K 1) ⟨hv, nm_r (er p _) ⟨hv, nm_r (er m _) ⟨hv, nm_r (er c _) (nm_r (nI_1 nx) ⟨?_, good 1 (Or.inl rfl)⟩)⟩⟩⟩⟩)), fun z => (z e0).elim⟩
                exact nI_pred nx
              · refine br_f h3 ⟨hv, nm_r (eu K 2) ⟨hv, nm_r (eu P f) ⟨hv, nm_r (eu M n) ?_⟩⟩⟩
                refine ydo _ ⟨fun _ => br_f n24 (br_f n62 (br_f h3 ⟨hv, nm_r (eu K 2) ⟨hv, nm_r (er p _) ⟨hv, nm_r (er m _) ⟨hv, nm_r (er c _) (nm_r (nI_1 nx) ⟨?_, good 2 (Or.inr rfl)⟩)⟩⟩⟩⟩)), fun z => (z e0).elim⟩
                exact nI_pred nx
            · have e62 : nx = 62 := by omega
              exact ydo _ ⟨fun _ => br_f n24 (br_t (by rw [e62]; rfl) ⟨rfl, rel⟩), fun z => (z e0).elim⟩
        · refine br_f (nI_ne0 (by omega) (by omega)) ?_
          exact ydo _ ⟨fun z => by omega, fun _ => ⟨rfl, rel⟩⟩
      · refine xa_rpl_b T f2 ef hw (br_f (by decide) ?_)
        unfold wpY_make
        exact ya_rfo_t T f2 ef (br_t (by decide) (ya_bad_t hw (br_f ca_n10 ⟨rfl, rel⟩)))
    · have e1 : K f = 1 := by have := ca_Tb T f; omega
      refine xa_rpl_n T f2 e1 (br_f (by decide) ?_)
      unfold wpY_make
      exact ya_rfo_n T f2 e1 (br_f (by decide) ⟨rfl, rel⟩)
  · refine xa_rpl_m hm (br_f (by decide) ?_)
    unfold wpY_make
    exact ya_rfo_m hm (br_f (by decide) ⟨rfl, rel⟩)
end
