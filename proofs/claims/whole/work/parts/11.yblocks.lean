section
variable {nx : Int32} {K P M C F L U : Nat → Nat} {p m c mk tk : Nat → Int32} {nn : Nat}
/-- the taken ones after the extents below e -/
def ca_tk (C F L : Nat → Nat) (e : Nat) (s : Nat → Int32) : Prop := ∀ b, b < 96 → ((s b = 0 ∧ ¬ ∃ d, d < e ∧ ca_A C d ∧ ca_S F L d b) ∨ (s b = 1 ∧ ∃ d, d < e ∧ ca_A C d ∧ ca_S F L d b))
theorem ca_tk_n {C F L : Nat → Nat} {e : Nat} {s : Nat → Int32} (h : ca_tk C F L e s) (ha : ¬ ca_A C e) : ca_tk C F L (e + 1) s := by
  intro b hb
  rcases h b hb with ⟨h1, h2⟩ | ⟨h1, d, h2, h3, h4⟩
  · refine Or.inl ⟨h1, fun ⟨d, d1, d2, d3⟩ => ?_⟩
    by_cases z : d = e
    · rw [z] at d2; exact ha d2
    · exact h2 ⟨d, by omega, d2, d3⟩
  · exact Or.inr ⟨h1, d, by omega, h3, h4⟩
theorem ca_tk_a {C F L : Nat → Nat} {e : Nat} {s t : Nat → Int32} (h : ca_tk C F L e s) (ha : ca_A C e) (hi : ∀ b, b < 96 → ca_S F L e b → t b = 1) (ho : ∀ b, b < 96 → ¬ ca_S F L e b → t b = s b) : ca_tk C F L (e + 1) t := by
  intro b hb
  by_cases hs : ca_S F L e b
  · exact Or.inr ⟨hi b hb hs, e, by omega, ha, hs⟩
  · rw [ho b hb hs]
    rcases h b hb with ⟨h1, h2⟩ | ⟨h1, d, h2, h3, h4⟩
    · refine Or.inl ⟨h1, fun ⟨d, d1, d2, d3⟩ => ?_⟩
      by_cases z : d = e
      · rw [z] at d3; exact hs d3
      · exact h2 ⟨d, by omega, d2, d3⟩
    · exact Or.inr ⟨h1, d, by omega, h3, h4⟩
theorem ca_tk_e {C F L U : Nat → Nat} {s : Nat → Int32} (B : ca_B C F L U) (h : ca_tk C F L 372 s) (hC : ∀ e, ca_A C e → e < 372) : ∀ b, b < 96 → s b = nI (U b) := by
  intro b hb
  have hu := B.2.2.2.2 b hb
  have h1 := B.2.2.2.1 b
  rcases h b hb with ⟨a, n⟩ | ⟨a, d, _, d2, d3⟩
  · have : U b = 0 := by
      by_cases z : U b = 0
      · exact z
      · obtain ⟨d, d2, d3⟩ := hu.mp z
        exact (n ⟨d, hC d d2, d2, d3⟩).elim
    rw [a, this]; rfl
  · have := hu.mpr ⟨d, d2, d3⟩
    rw [a, show U b = 1 by omega]; rfl
theorem ya_note67 {post : SY → Prop} {J : Int32 → (Nat → Int32) → (Nat → Int32) → (Nat → Int32) → (Nat → Int32) → (Nat → Int32) → (Nat → Int32) → (Nat → Int32) → (Nat → Int32) → Prop} {e : Nat} {s0 : Nat → Int32}
    (he : e < 372) (hl : F e + L e ≤ 96) (hp : ∀ s : Nat → Int32, (∀ b, b < 96 → ca_S F L e b → s b = 1) → (∀ b, b < 96 → ¬ ca_S F L e b → s b = s0 b) → J (nI (e + 1)) (ca_en K) p m c (ca_en F) (ca_en L) mk s) :
    ∃ n, wY_note_67 post J (nI e) nx n (nI (F e)) (ca_en K) p m c (ca_en F) (ca_en L) mk s0 := by
  have hv : vp_in (nI e) 372 := vp_in_nI he (by decide)
  have e1 : ca_en F (nI e).toNatClampNeg + ca_en L (nI e).toNatClampNeg = nI (F e + L e) := by
    rw [ca_ec F (by omega), ca_ec L (by omega), nI_add]
  refine pk_loop (fun k b (s : Nat → Int32) => wY_note_67 post J (nI e) nx k (nI b) (ca_en K) p m c (ca_en F) (ca_en L) mk s)
    (fun b s => F e ≤ b ∧ (∀ d, d < 96 → F e ≤ d → d < b → s d = 1) ∧ (∀ d, d < 96 → ¬ (F e ≤ d ∧ d < b) → s d = s0 d)) (F e + L e) (F e) s0 (by omega) ⟨by omega, fun d _ h1 h2 => by omega, fun d _ _ => rfl⟩ ?_ ?_
  · intro k s I
    exact ⟨hv, hv, br_t (by rw [e1]; exact nI_le (Nat.le_refl _) (by omega)) (nm_r (nI_1 e) (hp s (fun b hb hs => I.2.1 b hb hs.1 hs.2) (fun b hb hs => I.2.2 b hb hs)))⟩
  · intro k b s hb I go
    have hFb := I.1
    refine ⟨hv, hv, br_f (by rw [e1]; exact nI_ge hb (by omega)) (br_f (nI_ge (b := 96) (by omega) (by decide)) ⟨vp_in_nI (by omega) (by decide), nm_e (nm_r (nI_1 b) (go _ ⟨by omega, fun d h0 h1 h2 => ?_, fun d h0 h1 => ?_⟩))⟩)⟩
    · rw [nI_clamp (by omega), ca_b1]
      by_cases z : d = b
      · rw [z, pk_us]
      · rw [pk_un z]; exact I.2.1 d h0 h1 (by omega)
    · rw [nI_clamp (by omega), pk_un (fun z => by omega)]
      exact I.2.2 d h0 (by omega)
theorem ya_note24 (T : ca_T K P M nn) (B : ca_B C F L U) (A : ca_ag K P M C p m c) (hC : ∀ i, K i ≠ 1 → C i = 0) {post : SY → Prop} {s0 : Nat → Int32} (h0 : ∀ b, b < 96 → s0 b = 0)
    (hp : ∀ s, (∀ b, b < 96 → s b = nI (U b)) → post (nx, ca_en K, p, m, c, ca_en F, ca_en L, mk, s)) : ∃ n, wY_note_24 post nx n 12 (ca_en K) p m c (ca_en F) (ca_en L) mk s0 := by
  obtain ⟨⟨t0, t1, _⟩, tn, tz, tb, _⟩ := T
  have act : ∀ e, ca_A C e → 12 ≤ e ∧ e < 372 ∧ K (e / 6) = 1 := by
    intro e he
    unfold ca_A at he
    have h1 : K (e / 6) = 1 := by
      by_cases z : K (e / 6) = 1
      · exact z
      · have := hC _ z; omega
    have h2 : e / 6 ≠ 0 := fun z => by rw [z] at h1; omega
    have h3 : e / 6 ≠ 1 := fun z => by rw [z] at h1; omega
    have h4 : e / 6 < 62 := by
      by_cases z : e / 6 < 62
      · exact z
      · have := tz (e / 6) (by omega); omega
    exact ⟨by omega, by omega, h1⟩
  refine pk_loop (fun k e (s : Nat → Int32) => wY_note_24 post nx k (nI e) (ca_en K) p m c (ca_en F) (ca_en L) mk s) (fun e s => 12 ≤ e ∧ ca_tk C F L e s) 372 12 s0 (by omega) ⟨by omega, fun b hb => Or.inl ⟨h0 b hb, fun ⟨d, d1, d2, _⟩ => ?_⟩⟩ ?_ ?_
  · have := act d d2; omega
  · intro k s I
    exact br_t (by decide) (hp s (ca_tk_e B I.2 (fun e he => (act e he).2.1)))
  · intro k e s he I go
    have h12 := I.1
    have ed : nI e / 6 = nI (e / 6) := pk_div (d := 6) (by omega) (by omega) (by omega)
    have er : nI e - nI e / 6 * 6 = nI (e % 6) := pk_rem (d := 6) (by omega) (by omega) (by omega)
    have h60 : ¬ (6 : Int32) = 0 := by decide
    have hi : vp_in (nI e / 6) 62 := by rw [ed]; exact ca_i62 (by omega)
    have t2 := tb (e / 6)
    have h6 := B.1 (e / 6)
    refine br_f (nI_ge (b := 372) he (by decide)) ⟨h60, hi, pk_eq (K (e / 6)) 1 (fun hk => ⟨h60, h60, hi, ?_⟩) (fun hk => nm_r (nI_1 e) (go s ⟨by omega, ca_tk_n I.2 ?_⟩)) (by rw [ed, ca_ec K (by omega)]) rfl (by omega) (by omega)⟩
    · refine pk_le (C (e / 6)) (e % 6) (fun hl => nm_r (nI_1 e) (go s ⟨by omega, ca_tk_n I.2 ?_⟩)) (fun hl => ?_) (by rw [ed]; exact ca_rc (by omega) (A (e / 6) (by omega) (by omega)).2.2) er (by omega) (by omega)
      · unfold ca_A; omega
      · have ha : ca_A C e := hl
        have hv := B.2.1 e ha
        refine ⟨vp_in_nI he (by decide), nm_r (ca_ec F (by omega)) (ya_note67 he hv.2.2 (fun t ht1 ht2 => go t ⟨by omega, ca_tk_a I.2 ha ht1 ht2⟩))⟩
    · intro ha
      exact hk (act e ha).2.2
theorem ya_note (T : ca_T K P M nn) (B : ca_B C F L U) (A : ca_ag K P M C p m c) (hC : ∀ i, K i ≠ 1 → C i = 0) {post : SY → Prop}
    (hp : ∀ s, (∀ b, b < 96 → s b = nI (U b)) → post (nx, ca_en K, p, m, c, ca_en F, ca_en L, mk, s)) : wpY_note post (nx, ca_en K, p, m, c, ca_en F, ca_en L, mk, tk) := by
  refine pk_loop (fun k t (s : Nat → Int32) => wY_note_2 post nx k (nI t) (ca_en K) p m c (ca_en F) (ca_en L) mk s) (fun t s => ∀ b, b < t → s b = 0) 96 0 tk (by omega) (fun b hb => by omega) ?_ ?_
  · intro k s I
    exact br_t (by decide) (ya_note24 T B A hC I hp)
  · intro k t s ht I go
    refine br_f (nI_ge (b := 96) ht (by decide)) ⟨vp_in_nI ht (by decide), nm_e (nm_r (nI_1 t) (go _ (fun b hb => ?_)))⟩
    rw [nI_clamp (by omega), ca_b0]
    by_cases z : b = t
    · rw [z, pk_us]
    · rw [pk_un z]; exact I b (by omega)
theorem ya_free8 {post : Int32 → SY → Prop} (b1 : ∀ b, U b ≤ 1) (ht : ∀ b, b < 96 → tk b = nI (U b)) (hp : post (nI (ca_cn (fun b => decide (U b = 0)) 96)) (nx, ca_en K, p, m, c, ca_en F, ca_en L, mk, tk)) : ∃ n, wY_free_8 post nx (ca_en K) p m c (ca_en F) (ca_en L) mk tk n 0 0 := by
  refine pk_loop (fun k t (s : Nat) => wY_free_8 post nx (ca_en K) p m c (ca_en F) (ca_en L) mk tk k (nI s) (nI t)) (fun t s => s = ca_cn (fun b => decide (U b = 0)) t) 96 0 0 (by omega) rfl ?_ ?_
  · intro k s I
    exact br_t (by decide) (by rw [I]; exact hp)
  · intro k t s hlt I go
    have hb := b1 t
    refine br_f (nI_ge (b := 96) hlt (by decide)) ⟨vp_in_nI hlt (by decide), pk_eq (U t) 0 (fun e => nm_r (nI_1 s) (nm_r (nI_1 t) (go (s + 1) ?_))) (fun e => nm_r (nI_1 t) (go s ?_)) (ca_rc (by omega) (ht t hlt)) rfl (by omega) (by omega)⟩
    · rw [ca_cn_t (n := t) (by simp [e]), I]
    · rw [ca_cn_f (n := t) (by simp [e])]; exact I
theorem ya_allf {post : Int32 → Prop} {a l : Nat} (ha : a < 96) (l2 : l ≤ 32) (b1 : ∀ b, U b ≤ 1) (ht : ∀ b, b < 96 → tk b = nI (U b)) (h1 : ca_ff U l a → post 1) (h0 : ¬ ca_ff U l a → post 0) :
    wpY_allFree post (nx, ca_en K, p, m, c, ca_en F, ca_en L, mk, tk) (nI a) (nI l) := by
  refine pk_le (a + l) 96 (fun h => ?_) (fun h => h0 (fun z => by have := z.1; omega)) (nI_add a l) rfl (by omega) (by omega)
  refine pk_loop (fun k t (_ : Unit) => wY_allFree_12 post (nI a) (nI l) nx (ca_en K) p m c (ca_en F) (ca_en L) mk tk k (nI t)) (fun t _ => a ≤ t ∧ ∀ b, a ≤ b → b < t → U b = 0) (a + l) a () (by omega) ⟨by omega, fun b _ _ => by omega⟩ ?_ ?_
  · intro k s I
    exact br_t (by rw [nI_add]; exact nI_le (Nat.le_refl _) (by omega)) (h1 ⟨h, I.2⟩)
  · intro k t s hlt I go
    have hb := b1 t
    refine br_f (by rw [nI_add]; exact nI_ge hlt (by omega)) ⟨vp_in_nI (by omega) (by decide), pk_eq (U t) 0 (fun e => nm_r (nI_1 t) (go () ⟨by omega, fun b x1 x2 => ?_⟩)) (fun e => h0 (fun z => e (z.2 t I.1 hlt))) (ca_rc (by omega) (ht t (by omega))) rfl (by omega) (by omega)⟩
    by_cases z : b = t
    · rw [z]; exact e
    · exact I.2 b x1 (by omega)
theorem ya_ext {post : Int32 → SY → Prop} {i l : Nat} (hi : i < 62) (hc : c i = nI (C i)) (h6 : C i < 6) (l1 : 1 ≤ l) (l2 : l ≤ 32) (b1 : ∀ b, U b ≤ 1) (ht : ∀ b, b < 96 → tk b = nI (U b))
    (h1 : ∀ a, ca_ff U l a → (∀ b, b < a → ¬ ca_ff U l b) → post (nI a) (nx, ca_en K, p, m, (upd c i (nI (C i + 1))), ca_en (ca_up F (i * 6 + C i) a), ca_en (ca_up L (i * 6 + C i) l), mk, tk))
    (h0 : (∀ b, ¬ ca_ff U l b) → post (-11) (nx, ca_en K, p, m, c, ca_en F, ca_en L, mk, tk)) : ∃ n, wY_extend_47 post (nI i) (nI l) nx (ca_en K) p m c (ca_en F) (ca_en L) mk tk n 0 := by
  have hci : c (nI i).toNatClampNeg = nI (C i) := ca_rc (by omega) hc
  have e2 : 6 * nI i + c (nI i).toNatClampNeg = nI (i * 6 + C i) := by
    rw [hci, show (6 : Int32) = nI 6 from rfl, pk_mul, nI_add, Nat.mul_comm]
  have hs : vp_in (nI (i * 6 + C i)) 372 := vp_in_nI (by omega) (by decide)
  have eF : ∀ (f : Nat → Nat) (x : Nat), upd (ca_en f) (6 * nI i + c (nI i).toNatClampNeg).toNatClampNeg (nI x) = ca_en (ca_up f (i * 6 + C i) x) := by
    intro f x
    rw [e2, nI_clamp (by omega), ca_upe]
  refine pk_loop (fun k t (_ : Unit) => wY_extend_47 post (nI i) (nI l) nx (ca_en K) p m c (ca_en F) (ca_en L) mk tk k (nI t)) (fun t _ => ∀ b, b < t → ¬ ca_ff U l b) 96 0 () (by omega) (fun b hb => by omega) ?_ ?_
  · intro k s I
    exact br_t (by decide) (h0 (fun b z => I b (by have := z.1; omega) z))
  · intro k t s hlt I go
    refine br_f (nI_ge (b := 96) hlt (by decide)) (ya_allf hlt l2 b1 ht (fun w => br_f ca_n10 ⟨ca_i62 hi, by rw [e2]; exact hs, nm_r (eF F t) ⟨ca_i62 hi, by rw [e2]; exact hs, nm_r (eF L l) ⟨ca_i62 hi, ca_i62 hi, nm_r (e' := upd c i (nI (C i + 1))) ?_ (h1 t w I)⟩⟩⟩) (fun w => br_t rfl (nm_r (nI_1 t) (go () (fun b hb => ?_)))))
    · rw [hci, nI_1, nI_clamp (by omega)]
    · by_cases z : b = t
      · rw [z]; exact w
      · exact I b (by omega)
theorem ya_blocks {post : Int32 → Prop} {i : Nat} (hi : i < 62) (hc : c i = nI (C i)) (h6 : C i ≤ 6) (hp : post (nI (ca_sm L (i * 6) (C i)))) : ∃ n, wY_blocks_17 post (nI i) nx (ca_en K) p m c (ca_en F) (ca_en L) mk tk n 0 0 := by
  have hci : c (nI i).toNatClampNeg = nI (C i) := ca_rc (by omega) hc
  refine pk_loop (fun k j (s : Nat) => wY_blocks_17 post (nI i) nx (ca_en K) p m c (ca_en F) (ca_en L) mk tk k (nI s) (nI j)) (fun j s => s = ca_sm L (i * 6) j) (C i) 0 0 (by omega) rfl ?_ ?_
  · intro k s I
    exact ⟨ca_i62 hi, br_t (by rw [hci]; exact nI_le (Nat.le_refl _) (by omega)) (by rw [I]; exact hp)⟩
  · intro k j s hj I go
    have e2 : 6 * nI i + nI j = nI (i * 6 + j) := by
      rw [show (6 : Int32) = nI 6 from rfl, pk_mul, nI_add, Nat.mul_comm]
    refine ⟨ca_i62 hi, br_f (by rw [hci]; exact nI_ge hj (by omega)) ⟨by rw [e2]; exact vp_in_nI (by omega) (by decide), nm_r (e' := nI (s + L (i * 6 + j))) ?_ (nm_r (nI_1 j) (go _ ?_))⟩⟩
    · rw [e2, ca_ec L (by omega), nI_add]
    · rw [I]; rfl
theorem ya_blockAt (B : ca_B C F L U) {post : Int32 → Prop} {i x : Nat} (hi : i < 62) (hc : c i = nI (C i)) (hx : x < 2 ^ 31) (hp : post (ca_ba F L (i * 6) (C i) 0 x)) : ∃ n, wY_blockAt_18 post (nI i) nx (ca_en K) p m c (ca_en F) (ca_en L) mk tk n (nI x) 0 := by
  have hci : c (nI i).toNatClampNeg = nI (C i) := ca_rc (by omega) hc
  have h6 := B.1 i
  refine pk_loop (fun k j (s : Nat) => wY_blockAt_18 post (nI i) nx (ca_en K) p m c (ca_en F) (ca_en L) mk tk k (nI s) (nI j)) (fun j s => s < 2 ^ 31 ∧ ca_ba F L (i * 6) (C i - j) j s = ca_ba F L (i * 6) (C i) 0 x) (C i) 0 x (by omega) ⟨hx, rfl⟩ ?_ ?_
  · intro k s I
    refine ⟨ca_i62 hi, br_t (by rw [hci]; exact nI_le (Nat.le_refl _) (by omega)) ?_⟩
    have h := I.2
    rw [Nat.sub_self] at h
    rw [← h] at hp
    exact hp
  · intro k j s hj I go
    have e2 : 6 * nI i + nI j = nI (i * 6 + j) := by
      rw [show (6 : Int32) = nI 6 from rfl, pk_mul, nI_add, Nat.mul_comm]
    have hl := B.2.1 (i * 6 + j) (by unfold ca_A; rw [show (i * 6 + j) / 6 = i by omega]; omega)
    have hs : vp_in (6 * nI i + nI j) 372 := by rw [e2]; exact vp_in_nI (by omega) (by decide)
    have hI := I.2
    have hI1 := I.1
    rw [show C i - j = (C i - (j + 1)) + 1 by omega] at hI
    simp only [ca_ba] at hI
    refine ⟨ca_i62 hi, br_f (by rw [hci]; exact nI_ge hj (by omega)) (br_f (nI_pos hI1) ⟨hs, pk_le (L (i * 6 + j)) s (fun e => ⟨hs, nm_r (e' := nI (s - L (i * 6 + j))) ?_ (nm_r (nI_1 j) (go _ ⟨by omega, ?_⟩))⟩) (fun e => ⟨hs, ?_⟩) (by rw [e2, ca_ec L (by omega)]) rfl (by omega) (by omega)⟩)⟩
    · rw [e2, ca_ec L (by omega), pk_sub e]
    · rw [if_pos e] at hI; exact hI
    · rw [if_neg (by omega)] at hI
      rw [e2, ca_ec F (by omega), nI_add, hI]
      exact hp
theorem ya_blockAtN {post : Int32 → Prop} {i : Nat} {v : Int32} (hi : i < 62) (hv : v < 0) (hp : post (-12)) : ∃ n, wY_blockAt_18 post (nI i) nx (ca_en K) p m c (ca_en F) (ca_en L) mk tk n v 0 :=
  ⟨1, ca_i62 hi, br_c (fun _ => hp) (fun _ => br_t hv hp)⟩
end
