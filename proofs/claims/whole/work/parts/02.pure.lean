section
/-! numbers, encoded arrays -/
def ca_up (f : Nat → Nat) (k v : Nat) : Nat → Nat := fun j => if j = k then v else f j
def ca_en (f : Nat → Nat) : Nat → Int32 := fun i => nI (f i)
theorem ca_ups {f : Nat → Nat} {k v : Nat} : ca_up f k v k = v := if_pos rfl
theorem ca_upn {f : Nat → Nat} {k v j : Nat} (h : j ≠ k) : ca_up f k v j = f j := if_neg h
theorem ca_upe (f : Nat → Nat) (k v : Nat) : upd (ca_en f) k (nI v) = ca_en (ca_up f k v) := by
  funext j
  simp only [upd, ca_en, ca_up]
  split <;> rfl
theorem ca_upi (f : Nat → Nat) (k v : Nat) (x : Int32) (h : x = nI v) : upd (ca_en f) k x = ca_en (ca_up f k v) := by
  rw [h, ca_upe]
theorem ca_e0 : (fun _ => 0 : Nat → Int32) = ca_en (fun _ => 0) := rfl
theorem ca_lit : (0 : Int32) = nI 0 ∧ (1 : Int32) = nI 1 ∧ (2 : Int32) = nI 2 ∧ (6 : Int32) = nI 6 := ⟨rfl, rfl, rfl, rfl⟩

/-! counting -/
def ca_cn (p : Nat → Bool) : Nat → Nat
  | 0 => 0
  | n + 1 => ca_cn p n + (if p n = true then 1 else 0)
theorem ca_cn_t {p : Nat → Bool} {n : Nat} (h : p n = true) : ca_cn p (n + 1) = ca_cn p n + 1 := by
  simp only [ca_cn, h, if_true]
theorem ca_cn_f {p : Nat → Bool} {n : Nat} (h : p n = false) : ca_cn p (n + 1) = ca_cn p n := by
  simp [ca_cn, h]
theorem ca_cn_same {p q : Nat → Bool} : ∀ n : Nat, (∀ i, i < n → p i = q i) → ca_cn p n = ca_cn q n := by
  intro n
  induction n with
  | zero => intro _; rfl
  | succ n ih =>
    intro h
    simp only [ca_cn]
    rw [ih (fun i hi => h i (by omega)), h n (by omega)]
theorem ca_cn_le {p : Nat → Bool} : ∀ n : Nat, ca_cn p n ≤ n := by
  intro n
  induction n with
  | zero => exact Nat.le_refl _
  | succ n ih =>
    simp only [ca_cn]
    split <;> omega
theorem ca_cn_add {p q : Nat → Bool} {k : Nat} : ∀ n : Nat, k < n → p k = false → q k = true → (∀ i, i < n → i ≠ k → p i = q i) → ca_cn q n = ca_cn p n + 1 := by
  intro n
  induction n with
  | zero => intro h; omega
  | succ n ih =>
    intro hk hp hq h
    by_cases e : k = n
    · subst e
      rw [ca_cn_t hq, ca_cn_f hp, ca_cn_same (p := p) (q := q) k (fun i hi => h i (by omega) (by omega))]
    · have := ih (by omega) hp hq (fun i hi hik => h i (by omega) hik)
      simp only [ca_cn]
      rw [this, h n (by omega) (by omega)]
      omega
theorem ca_cn_mono {p q : Nat → Bool} : ∀ n : Nat, (∀ i, i < n → p i = true → q i = true) → ca_cn p n ≤ ca_cn q n := by
  intro n
  induction n with
  | zero => intro _; exact Nat.le_refl _
  | succ n ih =>
    intro h
    have h1 := ih (fun i hi => h i (by omega))
    cases hp : p n with
    | false =>
      rw [ca_cn_f hp]
      cases hq : q n with
      | false => rw [ca_cn_f hq]; exact h1
      | true => rw [ca_cn_t hq]; omega
    | true =>
      rw [ca_cn_t hp, ca_cn_t (h n (by omega) hp)]
      omega
theorem ca_cn_lt {p q : Nat → Bool} {k : Nat} : ∀ n : Nat, k < n → p k = false → q k = true → (∀ i, i < n → p i = true → q i = true) → ca_cn p n < ca_cn q n := by
  intro n
  induction n with
  | zero => intro h; omega
  | succ n ih =>
    intro hk hp hq h
    by_cases e : k = n
    · subst e
      rw [ca_cn_t hq, ca_cn_f hp]
      have := ca_cn_mono (p := p) (q := q) k (fun i hi => h i (by omega))
      omega
    · have h1 := ih (by omega) hp hq (fun i hi => h i (by omega))
      cases hpn : p n with
      | false =>
        rw [ca_cn_f hpn]
        cases hqn : q n with
        | false => rw [ca_cn_f hqn]; exact h1
        | true => rw [ca_cn_t hqn]; omega
      | true =>
        rw [ca_cn_t hpn, ca_cn_t (h n (by omega) hpn)]
        omega

/-! a pigeon hole -/
theorem ca_pig : ∀ (n m : Nat) (f : Nat → Nat), (∀ i, i < m → f i < n) → (∀ i j, i < m → j < m → f i = f j → i = j) → m ≤ n := by
  intro n
  induction n with
  | zero =>
    intro m f hb _
    by_cases e : m = 0
    · omega
    · have := hb 0 (by omega)
      omega
  | succ n ih =>
    intro m f hb hi
    by_cases e : m = 0
    · omega
    · obtain ⟨k, rfl⟩ : ∃ k, m = k + 1 := ⟨m - 1, by omega⟩
      have := ih k (fun i => if f i = n then f k else f i) (by
        intro i hik
        have h1 := hb i (by omega)
        have h2 := hb k (by omega)
        have h3 := hi i k (by omega) (by omega)
        split
        · next h =>
          have : f k ≠ n := fun z => by
            have := h3 (by omega)
            omega
          omega
        · omega) (by
        intro i j hik hjk he
        have h3 := hi i k (by omega) (by omega)
        have h4 := hi j k (by omega) (by omega)
        have h5 := hi i j (by omega) (by omega)
        split at he
        · split at he
          · exact h5 (by omega)
          · have := h4 (by omega); omega
        · split at he
          · have := h3 (by omega); omega
          · exact h5 he)
      omega

/-! ways up -/
def ca_it (P : Nat → Nat) : Nat → Nat → Nat
  | 0, x => x
  | n + 1, x => ca_it P n (P x)
theorem ca_it_a (P : Nat → Nat) (b x : Nat) : ∀ a : Nat, ca_it P (b + a) x = ca_it P b (ca_it P a x) := by
  intro a
  induction a generalizing x with
  | zero => rfl
  | succ a ih =>
    show ca_it P (b + a) (P x) = ca_it P b (ca_it P a (P x))
    exact ih (P x)
theorem ca_it_s (P : Nat → Nat) (n x : Nat) : ca_it P (n + 1) x = P (ca_it P n x) := by
  rw [Nat.add_comm, ca_it_a]
  rfl
theorem ca_it_c {P Q : Nat → Nat} : ∀ (n x : Nat), (∀ q, q < n → Q (ca_it P q x) = P (ca_it P q x)) → ca_it Q n x = ca_it P n x := by
  intro n
  induction n with
  | zero => intro x _; rfl
  | succ n ih =>
    intro x h
    rw [ca_it_s, ca_it_s, ih x (fun q hq => h q (by omega)), h n (by omega)]
theorem ca_it_0 {P : Nat → Nat} (h0 : P 0 = 0) (h1 : P 1 = 0) : ∀ n : Nat, ca_it P (n + 1) 1 = 0 := by
  intro n
  induction n with
  | zero => exact h1
  | succ n ih => rw [ca_it_s, ih, h0]
theorem ca_rb {P : Nat → Nat} {n x : Nat} (hb : ∀ q, q ≤ n → 1 ≤ ca_it P q x ∧ ca_it P q x < 62) (h1 : ca_it P n x = 1) (hm : ∀ q, q < n → ca_it P q x ≠ 1) : n ≤ 60 := by
  have aux : ∀ a b : Nat, a ≤ n → b ≤ n → a < b → ca_it P a x = ca_it P b x → False := by
    intro a b ha hb' hab he
    apply hm (n - b + a) (by omega)
    rw [ca_it_a, he, ← ca_it_a, show n - b + b = n by omega, h1]
  have := ca_pig 61 (n + 1) (fun q => ca_it P q x - 1) (by
    intro i hi
    have := hb i (by omega)
    omega) (by
    intro i j hi hj he
    have h2 := hb i (by omega)
    have h3 := hb j (by omega)
    have h4 := aux i j (by omega) (by omega)
    have h5 := aux j i (by omega) (by omega)
    by_cases e : i = j
    · exact e
    · by_cases l : i < j
      · exact (h4 l (by omega)).elim
      · exact (h5 (by omega) (by omega)).elim)
  omega
end
