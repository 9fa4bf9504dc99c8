section
variable {nx ic : Int32} {K P M C F L U : Nat → Nat} {dm : Nat → Int32} {nn : Nat}
theorem xa_set {post : SX → Prop} {a l x : Nat} (hx : x = 0 ∨ x = 1) (h : a + l ≤ 96) (hp : post (nx, ic, ca_en K, ca_en P, ca_en M, ca_en C, ca_en F, ca_en L, ca_en (ca_rg U a l x), dm)) : wpX_setUsed post (nx, ic, ca_en K, ca_en P, ca_en M, ca_en C, ca_en F, ca_en L, ca_en U, dm) (nI a) (nI l) (nI x) :=
  pk_loop (fun k i (s : Nat → Int32) => wX_setUsed_3 post (nI a) (nI l) (nI x) nx ic k (nI i) (ca_en K) (ca_en P) (ca_en M) (ca_en C) (ca_en F) (ca_en L) s dm) (fun i s => s = ca_en (ca_rg U a i x)) l 0 (ca_en U) (by omega)
    (by rw [ca_rg_0])
    (fun k s I => br_t (nI_le (Nat.le_refl l) (by omega)) (by rw [I]; exact hp))
    (fun k i s hi I go => br_f (nI_ge hi (by omega)) ⟨by rw [nI_add]; exact vp_in_nI (by omega) (by decide), nm_e (nm_r (nI_1 i) (go _ (by
      rw [I, nI_add, nI_clamp (by omega)]
      have hb : vp_nar .boolean (nI x) = nI x := by
        rcases hx with e | e
        · rw [e]; exact ca_b0
        · rw [e]; exact ca_b1
      rw [hb, ca_upe, ca_rg_s])))⟩)
theorem xa_drop (B : ca_B C F L U) {post : Int32 → SX → Prop} {i q : Nat} (hi : i < 62) (hc : C i = q + 1) (hp : post (nI (L (i * 6 + q))) (nx, ic, ca_en K, ca_en P, ca_en M, ca_en (ca_up C i q), ca_en F, ca_en L, ca_en (ca_rg U (F (i * 6 + q)) (L (i * 6 + q)) 0), dm)) :
    wpX_dropLastExtent post (nx, ic, ca_en K, ca_en P, ca_en M, ca_en C, ca_en F, ca_en L, ca_en U, dm) (nI i) := by
  have h6 := B.1 i
  have hact : ca_A C (i * 6 + q) := by
    unfold ca_A
    rw [show (i * 6 + q) / 6 = i by omega]
    omega
  have hl := B.2.1 _ hact
  have e1 : upd (ca_en C) (nI i).toNatClampNeg (ca_en C (nI i).toNatClampNeg - 1) = ca_en (ca_up C i q) := by
    rw [nI_clamp (by omega)]
    refine ca_upi C i q _ ?_
    unfold ca_en
    rw [hc, nI_pred]
  have e2 : nI i * 6 + ca_en (ca_up C i q) (nI i).toNatClampNeg = nI (i * 6 + q) := by
    rw [ca_ec _ (by omega), ca_ups, show (6 : Int32) = nI 6 from rfl, pk_mul, nI_add]
  have hs : vp_in (nI (i * 6 + q)) 372 := vp_in_nI (by omega) (by decide)
  refine ⟨ca_i62 hi, ca_i62 hi, nm_r e1 ⟨ca_i62 hi, nm_r e2 ⟨hs, hs, ?_⟩⟩⟩
  rw [ca_ec F (by omega), ca_ec L (by omega)]
  refine xa_set (x := 0) (Or.inl rfl) hl.2.2 ⟨hs, ?_⟩
  rw [ca_ec L (by omega)]
  exact hp
theorem xa_discard (B : ca_B C F L U) {post : SX → Prop} {i : Nat} (hi : i < 62)
    (hp : ∀ V, ca_B (ca_up C i 0) F L V → post (nx, (ic - 1), ca_en (ca_up K i 0), ca_en (ca_up P i 0), ca_en (ca_up M i 0), ca_en (ca_up C i 0), ca_en F, ca_en L, ca_en V, dm)) :
    wpX_discard post (nx, ic, ca_en K, ca_en P, ca_en M, ca_en C, ca_en F, ca_en L, ca_en U, dm) (nI i) := by
  have h6 := B.1 i
  have e0 : ca_up C i (C i - 0) = C := by
    funext j
    unfold ca_up
    split
    · next e => rw [e]; rfl
    · rfl
  have ez : ∀ f : Nat → Nat, upd (ca_en f) (nI i).toNatClampNeg 0 = ca_en (ca_up f i 0) := by
    intro f
    rw [nI_clamp (by omega)]
    exact ca_upi f i 0 _ rfl
  refine pk_loop (fun k t (s : (Nat → Int32) × (Nat → Int32)) => wX_discard_2 post (nI i) k (nI t) nx ic (ca_en K) (ca_en P) (ca_en M) s.1 (ca_en F) (ca_en L) s.2 dm)
    (fun t s => ∃ V, s = (ca_en (ca_up C i (C i - t)), ca_en V) ∧ ca_B (ca_up C i (C i - t)) F L V) 6 0 (ca_en C, ca_en U) (by omega) ?_ ?_ ?_
  · exact ⟨U, by rw [e0], by rw [e0]; exact B⟩
  · intro k s I
    obtain ⟨V, rfl, hB⟩ := I
    rw [show C i - 6 = 0 by omega] at hB ⊢
    exact br_t (by decide) ⟨ca_i62 hi, nm_r (ez K) ⟨ca_i62 hi, nm_r (ez P) ⟨ca_i62 hi, nm_r (ez M) (nm_e (hp V hB))⟩⟩⟩
  · intro k t s ht I go
    obtain ⟨V, rfl, hB⟩ := I
    refine br_f (nI_ge (b := 6) ht (by decide)) ⟨ca_i62 hi, pk_le (C i - t) 0 (fun e => ?_) (fun e => ?_) (by dsimp only; rw [ca_ec _ (by omega), ca_ups]) rfl (by omega) (by omega)⟩
    · refine nm_r (nI_1 t) (go _ ⟨V, ?_, ?_⟩)
      · rw [show C i - (t + 1) = C i - t by omega]
      · rw [show C i - (t + 1) = C i - t by omega]; exact hB
    · obtain ⟨q, hq⟩ : ∃ q, C i - t = q + 1 := ⟨C i - t - 1, by omega⟩
      have hq2 : C i - (t + 1) = q := by omega
      have eu : ca_up (ca_up C i (C i - t)) i q = ca_up C i q := by
        funext j
        unfold ca_up
        split <;> rfl
      refine xa_drop hB hi (q := q) (by rw [ca_ups]; exact hq) ?_
      have hB2 := ca_B_dn hB (i := i) (c := q) (by rw [ca_ups]; exact hq)
      rw [eu] at hB2 ⊢
      exact nm_r (nI_1 t) (go (ca_en (ca_up C i q), ca_en (ca_rg V (F (i * 6 + q)) (L (i * 6 + q)) 0)) ⟨ca_rg V (F (i * 6 + q)) (L (i * 6 + q)) 0, by rw [hq2], by rw [hq2]; exact hB2⟩)
theorem xa_run {post : Int32 → Prop} {l : Nat} (l1 : 1 ≤ l) (l2 : l ≤ 32) (b1 : ∀ b, U b ≤ 1) (h1 : ∀ a, ca_ff U l a → (∀ b, b < a → ¬ ca_ff U l b) → post (nI a)) (h0 : (∀ b, ¬ ca_ff U l b) → post (-11)) :
    wpX_firstFreeRun post (nx, ic, ca_en K, ca_en P, ca_en M, ca_en C, ca_en F, ca_en L, ca_en U, dm) (nI l) :=
  pk_loop (fun k t (s : Nat) => wX_firstFreeRun_4 post (nI l) nx ic (ca_en K) (ca_en P) (ca_en M) (ca_en C) (ca_en F) (ca_en L) (ca_en U) dm k (nI s) (nI t)) (fun t s => ca_ru U l t s) 96 0 0 (by omega)
    (ca_ru0 l1)
    (fun k s I => br_t (by decide) (h0 (ca_ru_n I)))
    (fun k t s ht I go => br_f (nI_ge (b := 96) ht (by decide)) ⟨vp_in_nI ht (by decide), pk_eq (U t) 0
      (fun e => pk_eq (s + 1) l
        (fun e2 => by
          obtain ⟨g1, g2, g3⟩ := ca_ru_e I e e2 ht
          have ev : nI t - nI l + 1 = nI (t + 1 - l) := by
            have : nI t - nI l + 1 = nI t + 1 - nI l := by grind
            rw [this, nI_1, pk_sub g1]
          rw [ev]
          exact h1 _ g2 g3)
        (fun e2 => nm_r (nI_1 t) (by
          rw [nI_1]
          exact go (s + 1) (ca_ru_f I e e2)))
        (nI_1 s) rfl (by have := I.1; omega) (by omega))
      (fun e => pk_eq 0 l (fun e2 => by omega) (fun e2 => nm_r (nI_1 t) (go 0 (ca_ru_u I e))) rfl rfl (by omega) (by omega))
      (ca_ec U (by omega)) rfl (by have := b1 t; omega) (by omega)⟩)
theorem xa_add (B : ca_B C F L U) {post : SX → Prop} {i a l : Nat} (hi : i < 62) (h6 : C i < 6) (al : a + l ≤ 96)
    (hp : post (nx, ic, ca_en K, ca_en P, ca_en M, ca_en (ca_up C i (C i + 1)), ca_en (ca_up F (i * 6 + C i) a), ca_en (ca_up L (i * 6 + C i) l), ca_en (ca_rg U a l 1), dm)) : wpX_addExtent post (nx, ic, ca_en K, ca_en P, ca_en M, ca_en C, ca_en F, ca_en L, ca_en U, dm) (nI i) (nI a) (nI l) := by
  have e2 : nI i * 6 + ca_en C (nI i).toNatClampNeg = nI (i * 6 + C i) := by
    rw [ca_ec _ (by omega), show (6 : Int32) = nI 6 from rfl, pk_mul, nI_add]
  have hs : vp_in (nI (i * 6 + C i)) 372 := vp_in_nI (by omega) (by decide)
  have eF : ∀ (f : Nat → Nat) (x : Nat), upd (ca_en f) (nI (i * 6 + C i)).toNatClampNeg (nI x) = ca_en (ca_up f (i * 6 + C i) x) := by
    intro f x
    rw [nI_clamp (by omega), ca_upe]
  have e1 : upd (ca_en C) (nI i).toNatClampNeg (ca_en C (nI i).toNatClampNeg + 1) = ca_en (ca_up C i (C i + 1)) := by
    rw [nI_clamp (by omega)]
    refine ca_upi C i _ _ ?_
    unfold ca_en
    rw [nI_1]
  exact ⟨ca_i62 hi, nm_r e2 ⟨hs, nm_r (eF F a) ⟨hs, nm_r (eF L l) ⟨ca_i62 hi, ca_i62 hi, nm_r e1 (xa_set (x := 1) (Or.inr rfl) al hp)⟩⟩⟩⟩
theorem xa_free {post : Int32 → Prop} (b1 : ∀ b, U b ≤ 1) (hp : post (nI (ca_cn (fun b => decide (U b = 0)) 96))) : wpX_free post (nx, ic, ca_en K, ca_en P, ca_en M, ca_en C, ca_en F, ca_en L, ca_en U, dm) :=
  pk_loop (fun k t (s : Nat) => wX_free_4 post nx ic (ca_en K) (ca_en P) (ca_en M) (ca_en C) (ca_en F) (ca_en L) (ca_en U) dm k (nI s) (nI t)) (fun t s => s = ca_cn (fun b => decide (U b = 0)) t) 96 0 0 (by omega)
    rfl
    (fun k s I => br_t (by decide) (by rw [I]; exact hp))
    (fun k t s ht I go => br_f (nI_ge (b := 96) ht (by decide)) ⟨vp_in_nI ht (by decide), pk_eq (U t) 0
      (fun e => nm_r (nI_1 s) (nm_r (nI_1 t) (go (s + 1) (by rw [ca_cn_t (n := t) (by simp [e]), I]))))
      (fun e => nm_r (nI_1 t) (go s (by rw [ca_cn_f (n := t) (by simp [e])]; exact I)))
      (ca_ec U (by omega)) rfl (by have := b1 t; omega) (by omega)⟩)
/-! sums of lengths, a block by its index -/
def ca_sm (L : Nat → Nat) (e : Nat) : Nat → Nat
  | 0 => 0
  | j + 1 => ca_sm L e j + L (e + j)
def ca_ba (F L : Nat → Nat) (e : Nat) : Nat → Nat → Nat → Int32
  | 0, _, _ => -12
  | d + 1, j, x => if L (e + j) ≤ x then ca_ba F L e d (j + 1) (x - L (e + j)) else nI (F (e + j) + x)
theorem xa_blocks (B : ca_B C F L U) {post : Int32 → Prop} {i : Nat} (hi : i < 62) (hp : post (nI (ca_sm L (i * 6) (C i)))) : ∃ n, wX_blocks_17 post (nI i) nx ic (ca_en K) (ca_en P) (ca_en M) (ca_en C) (ca_en F) (ca_en L) (ca_en U) dm n 0 0 :=
  pk_loop (fun k j (s : Nat) => wX_blocks_17 post (nI i) nx ic (ca_en K) (ca_en P) (ca_en M) (ca_en C) (ca_en F) (ca_en L) (ca_en U) dm k (nI s) (nI j)) (fun j s => s = ca_sm L (i * 6) j) (C i) 0 0 (by omega)
    rfl
    (fun k s I => ⟨ca_i62 hi, br_t (by rw [ca_ec C (by omega)]; exact nI_le (Nat.le_refl _) (by have := B.1 i; omega)) (by rw [I]; exact hp)⟩)
    (fun k j s hj I go => by
      have h6 := B.1 i
      have e2 : nI i * 6 + nI j = nI (i * 6 + j) := by
        rw [show (6 : Int32) = nI 6 from rfl, pk_mul, nI_add]
      refine ⟨ca_i62 hi, br_f (by rw [ca_ec C (by omega)]; exact nI_ge hj (by omega)) ⟨by rw [e2]; exact vp_in_nI (by omega) (by decide), nm_r (e' := nI (s + L (i * 6 + j))) ?_ (nm_r (nI_1 j) (go _ ?_))⟩⟩
      · rw [e2, ca_ec L (by omega), nI_add]
      · rw [I]; rfl)
theorem xa_blockAt (B : ca_B C F L U) {post : Int32 → Prop} {i x : Nat} (hi : i < 62) (hx : x < 2 ^ 31) (hp : post (ca_ba F L (i * 6) (C i) 0 x)) : ∃ n, wX_blockAt_25 post (nI i) nx ic (ca_en K) (ca_en P) (ca_en M) (ca_en C) (ca_en F) (ca_en L) (ca_en U) dm n (nI x) 0 :=
  pk_loop (fun k j (s : Nat) => wX_blockAt_25 post (nI i) nx ic (ca_en K) (ca_en P) (ca_en M) (ca_en C) (ca_en F) (ca_en L) (ca_en U) dm k (nI s) (nI j)) (fun j s => s < 2 ^ 31 ∧ ca_ba F L (i * 6) (C i - j) j s = ca_ba F L (i * 6) (C i) 0 x) (C i) 0 x (by omega)
    ⟨hx, rfl⟩
    (fun k s I => ⟨ca_i62 hi, br_t (by rw [ca_ec C (by omega)]; exact nI_le (Nat.le_refl _) (by have := B.1 i; omega)) (by
      have h := I.2
      rw [Nat.sub_self] at h
      rw [← h] at hp
      exact hp)⟩)
    (fun k j s hj I go => by
      have h6 := B.1 i
      have e2 : nI i * 6 + nI j = nI (i * 6 + j) := by
        rw [show (6 : Int32) = nI 6 from rfl, pk_mul, nI_add]
      have hl := B.2.1 (i * 6 + j) (by unfold ca_A; rw [show (i * 6 + j) / 6 = i by omega]; omega)
      have hs : vp_in (nI (i * 6 + j)) 372 := vp_in_nI (by omega) (by decide)
      have hI := I.2
      have hI1 := I.1
      rw [show C i - j = (C i - (j + 1)) + 1 by omega] at hI
      simp only [ca_ba] at hI
      refine ⟨ca_i62 hi, br_f (by rw [ca_ec C (by omega)]; exact nI_ge hj (by omega)) (nm_r e2 ⟨hs, pk_le (L (i * 6 + j)) s (fun e => ⟨hs, nm_r (e' := nI (s - L (i * 6 + j))) ?_ (nm_r (nI_1 j) (go _ ⟨by omega, ?_⟩))⟩) (fun e => ⟨hs, ?_⟩) (ca_ec L (by omega)) rfl (by omega) (by omega)⟩)⟩
      · rw [ca_ec L (by omega), pk_sub e]
      · rw [if_pos e] at hI; exact hI
      · rw [if_neg (by omega)] at hI
        rw [ca_ec F (by omega), nI_add, hI]
        exact hp)
end
