section
variable {nx : Int32} {K P M C F L U : Nat → Nat} {p m c mk tk : Nat → Int32} {nn : Nat}
theorem ya_disc {post : Int32 → SY → Prop} {D : Nat → Bool} (hD : ∀ j, D j = true → 2 ≤ j ∧ j < 62) (hm : ca_mk D 62 mk)
    (hp : post (nI (ca_cn D 62)) (nx, ca_en (ca_cut D K), p, m, c, ca_en F, ca_en L, mk, tk)) : ∃ n, wY_removeAll_60 post nx n 0 2 (ca_en K) p m c (ca_en F) (ca_en L) mk tk := by
  have df : ∀ j, ¬ (2 ≤ j ∧ j < 62) → D j = false := fun j h => by
    cases e : D j with
    | true => exact (h (hD j e)).elim
    | false => rfl
  have d0 : D 0 = false := df 0 (by omega)
  have d1 : D 1 = false := df 1 (by omega)
  refine pk_loop (fun k t (s : Int32 × (Nat → Int32)) => wY_removeAll_60 post nx k s.1 (nI t) s.2 p m c (ca_en F) (ca_en L) mk tk) (fun t s => 2 ≤ t ∧ s = (nI (ca_cn D t), ca_en (ca_cut (ca_dt D t) K))) 62 2 (0, ca_en K) (by omega) ?_ ?_ ?_
  · refine ⟨by omega, ?_⟩
    rw [ca_dt_2 d0 d1, ca_cn_2 d0 d1]; rfl
  · intro k s I
    obtain ⟨_, rfl⟩ := I
    rw [ca_dt_62 (fun j h => (hD j h).2)]
    exact br_t (by decide) hp
  · intro k t s ht I go
    obtain ⟨h2, rfl⟩ := I
    have hd := hm t h2 ht
    cases e : D t with
    | false =>
      refine br_f (nI_ge (b := 62) ht (by decide)) ⟨ca_i62 ht, br_t ?_ (nm_r (nI_1 t) (go _ ⟨by omega, ?_⟩))⟩
      · rw [nI_clamp (by omega), hd, ca_bi_f e]
      · rw [ca_dt_f e, ca_cn_f e]
    | true =>
      refine br_f (nI_ge (b := 62) ht (by decide)) ⟨ca_i62 ht, br_f ?_ ⟨ca_i62 ht, nm_r (e' := ca_en (ca_up (ca_cut (ca_dt D t) K) t 0)) ?_ (nm_r (nI_1 _) (nm_r (nI_1 t) (go (nI (ca_cn D t + 1), ca_en (ca_up (ca_cut (ca_dt D t) K) t 0)) ⟨by omega, ?_⟩)))⟩⟩
      · rw [nI_clamp (by omega), hd, ca_bi_t e]; decide
      · rw [nI_clamp (by omega)]; exact ca_upi _ t 0 _ rfl
      · rw [ca_dt_t e, ca_cn_t e]
theorem ya_all (T : ca_T K P M nn) (A : ca_ag K P M C p m c) {post : Int32 → SY → Prop} {f : Nat} (hf2 : f < 62)
    (hp : ∀ s, post (nI (ca_cn (ca_dm K P f) 62)) (nx, ca_en (ca_cut (ca_dm K P f) K), p, m, c, ca_en F, ca_en L, s, tk)) : ∃ n, wY_removeAll_14 post (nI f) nx n 2 (ca_en K) p m c (ca_en F) (ca_en L) mk tk := by
  refine pk_loop (fun k t (s : Nat → Int32) => wY_removeAll_14 post (nI f) nx k (nI t) (ca_en K) p m c (ca_en F) (ca_en L) s tk) (fun t s => 2 ≤ t ∧ ca_mk (ca_dm K P f) t s) 62 2 mk (by omega) ⟨by omega, fun j h1 h2 => by omega⟩ ?_ ?_
  · intro k s I
    exact br_t (by decide) (ya_disc (fun j h => by have := (ca_dm_t j).mp h; omega) I.2 (hp s))
  · intro k t s ht I go
    have st : ∀ x, x = ca_bi (ca_dm K P f t) → ca_mk (ca_dm K P f) (t + 1) (upd s (nI t).toNatClampNeg x) := by
      intro x hx
      rw [nI_clamp (by omega)]
      exact ca_mk_s I.2 hx
    refine br_f (nI_ge (b := 62) ht (by decide)) ⟨ca_i62 ht, pk_eq (K t) 0 (fun e => ⟨ca_i62 ht, nm_e (nm_r (nI_1 t) (go _ ⟨by omega, st _ ?_⟩))⟩) (fun e => ?_) (ca_ec K (by omega)) rfl (by have := ca_Tb T t; omega) (by omega)⟩
    · rw [ca_b0, ca_bi_f (ca_dm_f (fun z => z.2.2.1 e))]
    · refine ya_within T A e hf2 (fun h => br_f ca_n10 ⟨ca_i62 ht, nm_e (nm_r (nI_1 t) (go _ ⟨by omega, st _ ?_⟩))⟩) (fun h => br_t rfl ⟨ca_i62 ht, nm_e (nm_r (nI_1 t) (go _ ⟨by omega, st _ ?_⟩))⟩)
      · rw [ca_b1, ca_bi_t ((ca_dm_t t).mpr ⟨I.1, ht, e, h⟩)]
      · rw [ca_b0, ca_bi_f (ca_dm_f (fun z => by rw [h] at z; exact absurd z.2.2.2 (by decide)))]
end
