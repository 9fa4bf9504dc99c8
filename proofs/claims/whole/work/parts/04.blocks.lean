section
/-! the blocks: an extent e belongs to item e / 6 and is its e % 6 th -/
def ca_A (C : Nat → Nat) (e : Nat) : Prop := e % 6 < C (e / 6)
def ca_S (F L : Nat → Nat) (e b : Nat) : Prop := F e ≤ b ∧ b < F e + L e
def ca_B (C F L U : Nat → Nat) : Prop :=
  (∀ i, C i ≤ 6) ∧ (∀ e, ca_A C e → 1 ≤ L e ∧ L e ≤ 32 ∧ F e + L e ≤ 96) ∧
  (∀ e d b, ca_A C e → ca_A C d → ca_S F L e b → ca_S F L d b → e = d) ∧ (∀ b, U b ≤ 1) ∧
  (∀ b, b < 96 → (U b ≠ 0 ↔ ∃ e, ca_A C e ∧ ca_S F L e b))
/-- the range from a, of length l, set to x -/
def ca_rg (U : Nat → Nat) (a l x : Nat) : Nat → Nat := fun b => if a ≤ b ∧ b < a + l then x else U b
theorem ca_rg_i {U : Nat → Nat} {a l x b : Nat} (h : a ≤ b ∧ b < a + l) : ca_rg U a l x b = x := if_pos h
theorem ca_rg_o {U : Nat → Nat} {a l x b : Nat} (h : ¬ (a ≤ b ∧ b < a + l)) : ca_rg U a l x b = U b := if_neg h
theorem ca_rg_0 (U : Nat → Nat) (a x : Nat) : ca_rg U a 0 x = U := by
  funext b
  exact ca_rg_o (by omega)
theorem ca_rg_s (U : Nat → Nat) (a l x : Nat) : ca_up (ca_rg U a l x) (a + l) x = ca_rg U a (l + 1) x := by
  funext b
  unfold ca_up ca_rg
  by_cases h : b = a + l
  · rw [if_pos h, if_pos (by omega)]
  · rw [if_neg h]
    by_cases h2 : a ≤ b ∧ b < a + l
    · rw [if_pos h2, if_pos (by omega)]
    · rw [if_neg h2, if_neg (by omega)]
theorem ca_B0 : ca_B (fun _ => 0) (fun _ => 0) (fun _ => 0) (fun _ => 0) := by
  refine ⟨fun _ => Nat.zero_le _, fun e h => ?_, fun e d b h => ?_, fun _ => Nat.zero_le _, fun b _ => ⟨fun h => (h rfl).elim, fun ⟨e, h, _⟩ => ?_⟩⟩
  · exact (Nat.not_lt_zero _ h).elim
  · exact (Nat.not_lt_zero _ h).elim
  · exact (Nat.not_lt_zero _ h).elim
theorem ca_A_dn {C : Nat → Nat} {i c e : Nat} (hc : C i = c + 1) (h6 : C i ≤ 6) : ca_A (ca_up C i c) e ↔ ca_A C e ∧ e ≠ i * 6 + c := by
  unfold ca_A
  by_cases h : e / 6 = i
  · rw [h, ca_ups, hc]
    omega
  · rw [ca_upn h]
    constructor
    · intro z; exact ⟨z, by omega⟩
    · intro z; exact z.1
theorem ca_A_ad {C : Nat → Nat} {i c e : Nat} (hc : C i = c) (h6 : c < 6) : ca_A (ca_up C i (c + 1)) e ↔ ca_A C e ∨ e = i * 6 + c := by
  unfold ca_A
  by_cases h : e / 6 = i
  · rw [h, ca_ups, hc]
    omega
  · rw [ca_upn h]
    constructor
    · intro z; exact Or.inl z
    · intro z
      cases z with
      | inl z => exact z
      | inr z => omega
theorem ca_B_dn {C F L U : Nat → Nat} {i c : Nat} (B : ca_B C F L U) (hc : C i = c + 1) : ca_B (ca_up C i c) F L (ca_rg U (F (i * 6 + c)) (L (i * 6 + c)) 0) := by
  obtain ⟨b6, bl, bd, b1, bu⟩ := B
  have h6 := b6 i
  have act : ca_A C (i * 6 + c) := by
    unfold ca_A
    rw [show (i * 6 + c) / 6 = i by omega]
    omega
  refine ⟨?_, ?_, ?_, ?_, ?_⟩
  · intro j
    have := b6 j
    unfold ca_up; split <;> omega
  · intro e h
    exact bl e ((ca_A_dn hc h6).mp h).1
  · intro e d b h1 h2
    exact bd e d b ((ca_A_dn hc h6).mp h1).1 ((ca_A_dn hc h6).mp h2).1
  · intro b
    have := b1 b
    unfold ca_rg; split <;> omega
  · intro b hb
    by_cases h : F (i * 6 + c) ≤ b ∧ b < F (i * 6 + c) + L (i * 6 + c)
    · rw [ca_rg_i h]
      refine ⟨fun z => (z rfl).elim, fun ⟨e, h1, h2⟩ => ?_⟩
      have h3 := (ca_A_dn hc h6).mp h1
      exact (h3.2 (bd e _ b h3.1 act h2 h)).elim
    · rw [ca_rg_o h, bu b hb]
      constructor
      · intro ⟨e, h1, h2⟩
        refine ⟨e, (ca_A_dn hc h6).mpr ⟨h1, fun z => ?_⟩, h2⟩
        rw [z] at h2
        exact h h2
      · intro ⟨e, h1, h2⟩
        exact ⟨e, ((ca_A_dn hc h6).mp h1).1, h2⟩
theorem ca_S_o {F L : Nat → Nat} {k a l e b : Nat} (h : e ≠ k) : ca_S (ca_up F k a) (ca_up L k l) e b ↔ ca_S F L e b := by
  unfold ca_S
  rw [ca_upn h, ca_upn h]
theorem ca_S_i {F L : Nat → Nat} {k a l b : Nat} : ca_S (ca_up F k a) (ca_up L k l) k b ↔ a ≤ b ∧ b < a + l := by
  unfold ca_S
  rw [ca_ups, ca_ups]
theorem ca_B_ad {C F L U : Nat → Nat} {i c a l : Nat} (B : ca_B C F L U) (hc : C i = c) (h6 : c < 6) (l1 : 1 ≤ l) (l2 : l ≤ 32) (al : a + l ≤ 96)
    (fr : ∀ b, a ≤ b → b < a + l → U b = 0) : ca_B (ca_up C i (c + 1)) (ca_up F (i * 6 + c) a) (ca_up L (i * 6 + c) l) (ca_rg U a l 1) := by
  obtain ⟨b6, bl, bd, b1, bu⟩ := B
  have na : ¬ ca_A C (i * 6 + c) := by
    unfold ca_A
    rw [show (i * 6 + c) / 6 = i by omega]
    omega
  have nov : ∀ e b, ca_A C e → ca_S F L e b → ¬ (a ≤ b ∧ b < a + l) := by
    intro e b h1 h2 h3
    have h4 := bl e h1
    have h5 : b < 96 := by omega
    exact ((bu b h5).mpr ⟨e, h1, h2⟩) (fr b h3.1 h3.2)
  refine ⟨?_, ?_, ?_, ?_, ?_⟩
  · intro j
    have := b6 j
    unfold ca_up; split <;> omega
  · intro e h
    by_cases z : e = i * 6 + c
    · rw [z, ca_ups, ca_ups]; omega
    · rw [ca_upn z, ca_upn z]
      cases (ca_A_ad hc h6).mp h with
      | inl h => exact bl e h
      | inr h => exact (z h).elim
  · intro e d b h1 h2 h3 h4
    cases (ca_A_ad hc h6).mp h1 with
    | inl x1 =>
      have z1 : e ≠ i * 6 + c := fun z => na (z ▸ x1)
      rw [ca_S_o z1] at h3
      cases (ca_A_ad hc h6).mp h2 with
      | inl x2 =>
        have z2 : d ≠ i * 6 + c := fun z => na (z ▸ x2)
        rw [ca_S_o z2] at h4
        exact bd e d b x1 x2 h3 h4
      | inr x2 =>
        rw [x2, ca_S_i] at h4
        exact (nov e b x1 h3 h4).elim
    | inr x1 =>
      rw [x1, ca_S_i] at h3
      cases (ca_A_ad hc h6).mp h2 with
      | inl x2 =>
        have z2 : d ≠ i * 6 + c := fun z => na (z ▸ x2)
        rw [ca_S_o z2] at h4
        exact (nov d b x2 h4 h3).elim
      | inr x2 => rw [x1, x2]
  · intro b
    have := b1 b
    unfold ca_rg; split <;> omega
  · intro b hb
    by_cases h : a ≤ b ∧ b < a + l
    · rw [ca_rg_i h]
      exact ⟨fun _ => ⟨i * 6 + c, (ca_A_ad hc h6).mpr (Or.inr rfl), ca_S_i.mpr h⟩, fun _ => by omega⟩
    · rw [ca_rg_o h, bu b hb]
      constructor
      · intro ⟨e, h1, h2⟩
        have z : e ≠ i * 6 + c := fun z => na (z ▸ h1)
        exact ⟨e, (ca_A_ad hc h6).mpr (Or.inl h1), (ca_S_o z).mpr h2⟩
      · intro ⟨e, h1, h2⟩
        cases (ca_A_ad hc h6).mp h1 with
        | inl x =>
          have z : e ≠ i * 6 + c := fun z => na (z ▸ x)
          exact ⟨e, x, (ca_S_o z).mp h2⟩
        | inr x =>
          rw [x, ca_S_i] at h2
          exact (h h2).elim
/-- a free window of length l at b -/
def ca_ff (U : Nat → Nat) (l b : Nat) : Prop := b + l ≤ 96 ∧ ∀ c, b ≤ c → c < b + l → U c = 0
/-- what the scan for a run knows at block t with run r -/
def ca_ru (U : Nat → Nat) (l t r : Nat) : Prop := r ≤ t ∧ r < l ∧ (∀ c, t - r ≤ c → c < t → U c = 0) ∧ (r = t ∨ (r < t ∧ U (t - r - 1) ≠ 0)) ∧ (∀ b, b + l ≤ t → ¬ ca_ff U l b)
theorem ca_ru0 {U : Nat → Nat} {l : Nat} (h : 1 ≤ l) : ca_ru U l 0 0 :=
  ⟨by omega, by omega, fun c _ h2 => by omega, Or.inl rfl, fun b hb => by omega⟩
theorem ca_ru_u {U : Nat → Nat} {l t r : Nat} (h : ca_ru U l t r) (hu : U t ≠ 0) : ca_ru U l (t + 1) 0 := by
  obtain ⟨h1, h2, h3, h4, h5⟩ := h
  refine ⟨by omega, by omega, fun c _ _ => by omega, Or.inr ⟨by omega, ?_⟩, fun b hb w => ?_⟩
  · rw [show t + 1 - 0 - 1 = t by omega]; exact hu
  · by_cases e : b + l ≤ t
    · exact h5 b e w
    · exact hu (w.2 t (by omega) (by omega))
theorem ca_ru_f {U : Nat → Nat} {l t r : Nat} (h : ca_ru U l t r) (hu : U t = 0) (hl : r + 1 ≠ l) : ca_ru U l (t + 1) (r + 1) := by
  obtain ⟨h1, h2, h3, h4, h5⟩ := h
  refine ⟨by omega, by omega, fun c c1 c2 => ?_, ?_, fun b hb w => ?_⟩
  · by_cases e : c = t
    · rw [e]; exact hu
    · exact h3 c (by omega) (by omega)
  · cases h4 with
    | inl h => exact Or.inl (by omega)
    | inr h =>
      refine Or.inr ⟨by omega, ?_⟩
      rw [show t + 1 - (r + 1) - 1 = t - r - 1 by omega]
      exact h.2
  · by_cases e : b + l ≤ t
    · exact h5 b e w
    · cases h4 with
      | inl h => omega
      | inr h => exact h.2 (w.2 (t - r - 1) (by omega) (by omega))
theorem ca_ru_e {U : Nat → Nat} {l t r : Nat} (h : ca_ru U l t r) (hu : U t = 0) (hl : r + 1 = l) (ht : t < 96) : l ≤ t + 1 ∧ ca_ff U l (t + 1 - l) ∧ ∀ b, b < t + 1 - l → ¬ ca_ff U l b := by
  obtain ⟨h1, h2, h3, h4, h5⟩ := h
  refine ⟨by omega, ⟨by omega, fun c c1 c2 => ?_⟩, fun b hb => h5 b (by omega)⟩
  by_cases e : c = t
  · rw [e]; exact hu
  · exact h3 c (by omega) (by omega)
theorem ca_ru_n {U : Nat → Nat} {l r : Nat} (h : ca_ru U l 96 r) : ∀ b, ¬ ca_ff U l b := by
  intro b w
  exact h.2.2.2.2 b w.1 w
end
