section
/-- the doomed -/
def ca_dm (K P : Nat → Nat) (f j : Nat) : Bool := decide (2 ≤ j) && decide (j < 62) && decide (K j ≠ 0) && ca_wn P f 62 j
theorem ca_dm_t {K P : Nat → Nat} {f : Nat} : ∀ j, ca_dm K P f j = true ↔ (2 ≤ j ∧ j < 62 ∧ K j ≠ 0 ∧ ca_wn P f 62 j = true) := by
  intro j
  simp [ca_dm, and_assoc]
theorem ca_dm_f {K P : Nat → Nat} {f j : Nat} (h : ¬ (2 ≤ j ∧ j < 62 ∧ K j ≠ 0 ∧ ca_wn P f 62 j = true)) : ca_dm K P f j = false := by
  cases e : ca_dm K P f j with
  | true => exact (h ((ca_dm_t j).mp e)).elim
  | false => rfl
/-- a boolean as it is stored -/
def ca_bi (b : Bool) : Int32 := if b = true then 1 else 0
theorem ca_bi_t {b : Bool} (h : b = true) : ca_bi b = 1 := by rw [h]; rfl
theorem ca_bi_f {b : Bool} (h : b = false) : ca_bi b = 0 := by rw [h]; rfl
/-- the marks up to t -/
def ca_mk (D : Nat → Bool) (t : Nat) (s : Nat → Int32) : Prop := ∀ j, 2 ≤ j → j < t → s j = ca_bi (D j)
theorem ca_mk_s {D : Nat → Bool} {t : Nat} {s : Nat → Int32} {x : Int32} (h : ca_mk D t s) (hx : x = ca_bi (D t)) : ca_mk D (t + 1) (upd s t x) := by
  intro j h1 h2
  by_cases e : j = t
  · rw [e, pk_us]; exact hx
  · rw [pk_un e]; exact h j h1 (by omega)
section
variable {nx ic : Int32} {K P M C F L U : Nat → Nat} {dm : Nat → Int32} {nn : Nat}
theorem xa_mark (T : ca_T K P M nn) {post : SX → Prop} {f : Nat} (hf : 2 ≤ f) (hf2 : f < 62) (hp : ∀ s, ca_mk (ca_dm K P f) 62 s → post (nx, ic, ca_en K, ca_en P, ca_en M, ca_en C, ca_en F, ca_en L, ca_en U, s)) : wpX_markAllWithin post (nx, ic, ca_en K, ca_en P, ca_en M, ca_en C, ca_en F, ca_en L, ca_en U, dm) (nI f) := by
  refine pk_loop (fun k t (s : Nat → Int32) => wX_markAllWithin_2 post (nI f) nx ic k (nI t) (ca_en K) (ca_en P) (ca_en M) (ca_en C) (ca_en F) (ca_en L) (ca_en U) s) (fun t s => 2 ≤ t ∧ ca_mk (ca_dm K P f) t s) 62 2 dm (by omega) ⟨by omega, fun j h1 h2 => by omega⟩ ?_ ?_
  · intro k s I
    exact br_t ca_g62 (hp s I.2)
  · intro k t s ht I go
    have st : ∀ x, x = ca_bi (ca_dm K P f t) → ca_mk (ca_dm K P f) (t + 1) (upd s (nI t).toNatClampNeg x) := by
      intro x hx
      rw [nI_clamp (by omega)]
      exact ca_mk_s I.2 hx
    refine br_f (ca_g61 ht) ⟨ca_i62 ht, pk_eq (K t) 0 (fun e => ⟨ca_i62 ht, nm_e (nm_r (nI_1 t) (go _ ⟨by omega, st _ ?_⟩))⟩) (fun e => ?_) (ca_ec K (by omega)) rfl (by have := ca_Tb T t; omega) (by omega)⟩
    · rw [ca_b0, ca_bi_f (ca_dm_f (fun z => z.2.2.1 e))]
    · refine xa_within T e hf hf2 (fun h => br_f ca_n10 ⟨ca_i62 ht, nm_e (nm_r (nI_1 t) (go _ ⟨by omega, st _ ?_⟩))⟩) (fun h => br_t rfl ⟨ca_i62 ht, nm_e (nm_r (nI_1 t) (go _ ⟨by omega, st _ ?_⟩))⟩)
      · rw [ca_b1, ca_bi_t ((ca_dm_t t).mpr ⟨I.1, ht, e, h⟩)]
      · rw [ca_b0, ca_bi_f (ca_dm_f (fun z => by rw [h] at z; exact absurd z.2.2.2 (by decide)))]
theorem ca_dt_n {D : Nat → Bool} {t : Nat} (f : Nat → Nat) : ca_cut (ca_dt D t) f t = f t := by
  refine ca_cut_f ?_
  unfold ca_dt
  simp
abbrev ca_S7 : Type := Int32 × Int32 × (Nat → Int32) × (Nat → Int32) × (Nat → Int32) × (Nat → Int32) × (Nat → Int32)
theorem xa_discM (B : ca_B C F L U) {post : Int32 → SX → Prop} {D : Nat → Bool} {jc : Nat} (hj : jc = ca_cn (ca_pr K) 62) (hD : ∀ j, D j = true → 2 ≤ j ∧ j < 62 ∧ K j ≠ 0) (hm : ca_mk D 62 dm)
    (hp : ∀ V jd, ca_B (ca_cut D C) F L V → jd = ca_cn (ca_pr (ca_cut D K)) 62 → post (nI (ca_cn D 62)) (nx, (nI jd), ca_en (ca_cut D K), ca_en (ca_cut D P), ca_en (ca_cut D M), ca_en (ca_cut D C), ca_en F, ca_en L, ca_en V, dm)) :
    wpX_discardMarked post (nx, (nI jc), ca_en K, ca_en P, ca_en M, ca_en C, ca_en F, ca_en L, ca_en U, dm) := by
  have df : ∀ j, ¬ (2 ≤ j ∧ j < 62 ∧ K j ≠ 0) → D j = false := fun j h => by
    cases e : D j with
    | true => exact (h (hD j e)).elim
    | false => rfl
  have d0 : D 0 = false := df 0 (by omega)
  have d1 : D 1 = false := df 1 (by omega)
  refine pk_loop (fun k t (s : ca_S7) => wX_discardMarked_4 post k s.1 (nI t) nx (s.2.1) s.2.2.1 s.2.2.2.1 s.2.2.2.2.1 s.2.2.2.2.2.1 (ca_en F) (ca_en L) s.2.2.2.2.2.2 dm)
    (fun t s => 2 ≤ t ∧ ∃ V jd, s = (nI (ca_cn D t), nI jd, ca_en (ca_cut (ca_dt D t) K), ca_en (ca_cut (ca_dt D t) P), ca_en (ca_cut (ca_dt D t) M), ca_en (ca_cut (ca_dt D t) C), ca_en V) ∧
      ca_B (ca_cut (ca_dt D t) C) F L V ∧ jd = ca_cn (ca_pr (ca_cut (ca_dt D t) K)) 62) 62 2
    (0, nI jc, ca_en K, ca_en P, ca_en M, ca_en C, ca_en U) (by omega) ?_ ?_ ?_
  · refine ⟨by omega, U, jc, ?_, ?_, ?_⟩
    · rw [ca_dt_2 d0 d1, ca_dt_2 d0 d1, ca_dt_2 d0 d1, ca_dt_2 d0 d1, ca_cn_2 d0 d1]; rfl
    · rw [ca_dt_2 d0 d1]; exact B
    · rw [ca_dt_2 d0 d1]; exact hj
  · intro k s I
    obtain ⟨_, V, jd, rfl, hB, hjd⟩ := I
    have h62 : ∀ j, D j = true → j < 62 := fun j h => (hD j h).2.1
    rw [ca_dt_62 h62] at hB hjd
    rw [ca_dt_62 h62, ca_dt_62 h62, ca_dt_62 h62, ca_dt_62 h62]
    exact br_t ca_g62 (hp V jd hB hjd)
  · intro k t s ht I go
    obtain ⟨h2, V, jd, rfl, hB, hjd⟩ := I
    have hd := hm t h2 ht
    cases e : D t with
    | false =>
      refine br_f (ca_g61 ht) ⟨ca_i62 ht, br_t ?_ (nm_r (nI_1 t) (go _ ⟨by omega, V, jd, ?_, ?_, ?_⟩))⟩
      · rw [nI_clamp (by omega), hd, ca_bi_f e]
      · rw [ca_dt_f e, ca_dt_f e, ca_dt_f e, ca_dt_f e, ca_cn_f e]
      · rw [ca_dt_f e]; exact hB
      · rw [ca_dt_f e]; exact hjd
    | true =>
      have hk := (hD t e).2.2
      have h1 := ca_ic_rm (K := ca_cut (ca_dt D t) K) h2 ht (by rw [ca_dt_n]; exact hk)
      refine br_f (ca_g61 ht) ⟨ca_i62 ht, br_f ?_ (xa_discard hB ht (fun W hW => ?_))⟩
      · rw [nI_clamp (by omega), hd, ca_bi_t e]; decide
      · rw [← ca_dt_t e] at hW
        refine nm_r (nI_1 _) (nm_r (nI_1 t) (go (nI (ca_cn D t + 1), nI jd - 1, ca_en (ca_up (ca_cut (ca_dt D t) K) t 0), ca_en (ca_up (ca_cut (ca_dt D t) P) t 0), ca_en (ca_up (ca_cut (ca_dt D t) M) t 0), ca_en (ca_up (ca_cut (ca_dt D t) C) t 0), ca_en W) ⟨by omega, W, jd - 1, ?_, hW, ?_⟩))
        · rw [ca_dt_t e, ca_dt_t e, ca_dt_t e, ca_dt_t e, ca_cn_t e, show (1 : Int32) = nI 1 from rfl, pk_sub (by omega)]
        · rw [ca_dt_t e]; omega
theorem ca_rk_u (T : ca_T K P M nn) {f r s : Nat} (hr : ca_ch K P f r) (hs : ca_ch K P f s) (h : nI (ca_rk K P M f (M r)) = nI (ca_rk K P M f (M s))) : r = s := by
  have e := (nI_eq (by have := ca_rk_b K P M f (M r); omega) (by have := ca_rk_b K P M f (M s); omega)).mp h
  by_cases l : M r < M s
  · have := ca_rk_lt hr rfl l; omega
  · by_cases g : M s < M r
    · have := ca_rk_lt hs rfl g; omega
    · exact T.2.2.2.2.2.1 r s hr.1 hs.1 hr.2.2.1 hs.2.2.1 (by rw [hr.2.2.2, hs.2.2.2]) (by omega)
theorem xa_entry (T : ca_T K P M nn) {post : Int32 → Prop} {f : Nat} {v : Int32} (hf : f < 62) (h1 : ∀ r, ca_ch K P f r → nI (ca_rk K P M f (M r)) = v → post (nI r))
    (h0 : (∀ r, ca_ch K P f r → nI (ca_rk K P M f (M r)) ≠ v) → post (-12)) : ∃ n, wX_entry_15 post (nI f) v nx ic (ca_en K) (ca_en P) (ca_en M) (ca_en C) (ca_en F) (ca_en L) (ca_en U) dm n 2 := by
  refine pk_loop (fun k t (_ : Unit) => wX_entry_15 post (nI f) v nx ic (ca_en K) (ca_en P) (ca_en M) (ca_en C) (ca_en F) (ca_en L) (ca_en U) dm k (nI t)) (fun t _ => 2 ≤ t ∧ ∀ j, j < t → ca_ch K P f j → nI (ca_rk K P M f (M j)) ≠ v) 62 2 () (by omega) ⟨by omega, fun j h1 h2 => by have := h2.1; omega⟩ ?_ ?_
  · intro k s I
    exact br_t ca_g62 (h0 (fun r hr => I.2 r hr.2.1 hr))
  · intro k t s ht I go
    refine br_f (ca_g61 ht) (xa_kid T ht hf (fun h => br_t rfl (nm_r (nI_1 t) (go () ⟨by omega, fun j hj hc => ?_⟩))) (fun hk hq => br_f ca_n10 ⟨ca_i62 ht, ?_⟩))
    · by_cases e : j = t
      · rw [e] at hc; exact (h ⟨hc.2.2.1, hc.2.2.2⟩).elim
      · exact I.2 j (by omega) hc
    · rw [ca_ec M (by omega)]
      refine xa_below T hf (by have := ca_Tb T t; omega) ?_
      by_cases e : nI (ca_rk K P M f (M t)) = v
      · exact br_t e (h1 t ⟨I.1, ht, hk, hq⟩ e)
      · refine br_f e (nm_r (nI_1 t) (go () ⟨by omega, fun j hj hc => ?_⟩))
        by_cases e2 : j = t
        · rw [e2]; exact e
        · exact I.2 j (by omega) hc
end
end
