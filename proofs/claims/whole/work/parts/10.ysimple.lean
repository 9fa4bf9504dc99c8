section
variable {nx : Int32} {K P M C F L U : Nat → Nat} {p m c mk tk : Nat → Int32} {nn : Nat}
abbrev ca_ag (K P M C : Nat → Nat) (p m c : Nat → Int32) : Prop := ∀ i, 2 ≤ i → K i ≠ 0 → p i = nI (P i) ∧ m i = nI (M i) ∧ c i = nI (C i)
theorem ya_mis_f (T : ca_T K P M nn) {post : Int32 → Prop} {i : Nat} (h1 : 1 ≤ i) (h2 : i < 62) (hk : K i ≠ 0) (hp : post 0) : wpY_missing post (nx, ca_en K, p, m, c, ca_en F, ca_en L, mk, tk) (nI i) :=
  br_f (nI_nlt (b := 1) h1 (by omega)) (br_f (ca_g61 h2) ⟨ca_i62 h2, pk_eq (K i) 0 (fun e => (hk e).elim) (fun _ => hp) (ca_ec K (by omega)) rfl (by have := ca_Tb T i; omega) (by omega)⟩)
theorem ya_mis_t {post : Int32 → Prop} {v : Int32} (h : ca_ms K v) (hp : post 1) : wpY_missing post (nx, ca_en K, p, m, c, ca_en F, ca_en L, mk, tk) v := by
  by_cases a : v < 1
  · exact br_t a hp
  · refine br_f a ?_
    by_cases b : 61 < v
    · exact br_t b hp
    · refine br_f b ?_
      rcases h with h | h | ⟨i, h1, h2, rfl, h3⟩
      · exact (a h).elim
      · exact (b h).elim
      · exact ⟨ca_i62 h2, br_t (by rw [ca_ec K (by omega), h3]; rfl) hp⟩
theorem ya_rfo_m {post : Int32 → Prop} {v : Int32} (h : ca_ms K v) (hp : post (-1)) : wpY_refuseFolder post (nx, ca_en K, p, m, c, ca_en F, ca_en L, mk, tk) v := by
  unfold wpY_refuseFolder
  exact ya_mis_t h (br_f ca_n10 hp)
theorem ya_rfo_t (T : ca_T K P M nn) {post : Int32 → Prop} {i : Nat} (h2 : i < 62) (hk : K i = 2) (hp : post 0) : wpY_refuseFolder post (nx, ca_en K, p, m, c, ca_en F, ca_en L, mk, tk) (nI i) := by
  unfold wpY_refuseFolder
  exact ya_mis_f T (ca_T62 T (by omega)).1 h2 (by omega) (br_t rfl ⟨ca_i62 h2, br_t (by rw [ca_ec K (by omega), hk]; rfl) hp⟩)
theorem ya_rfo_n (T : ca_T K P M nn) {post : Int32 → Prop} {i : Nat} (h2 : i < 62) (hk : K i = 1) (hp : post (-2)) : wpY_refuseFolder post (nx, ca_en K, p, m, c, ca_en F, ca_en L, mk, tk) (nI i) := by
  unfold wpY_refuseFolder
  exact ya_mis_f T (ca_T62 T (by omega)).1 h2 (by omega) (br_t rfl ⟨ca_i62 h2, br_f (by rw [ca_ec K (by omega), hk]; decide) hp⟩)
theorem ya_rfi_m {post : Int32 → Prop} {v : Int32} (h : ca_ms K v) (hp : post (-1)) : wpY_refuseFile post (nx, ca_en K, p, m, c, ca_en F, ca_en L, mk, tk) v := by
  unfold wpY_refuseFile
  exact ya_mis_t h (br_f ca_n10 hp)
theorem ya_rfi_t (T : ca_T K P M nn) {post : Int32 → Prop} {i : Nat} (h2 : i < 62) (hk : K i = 1) (hp : post 0) : wpY_refuseFile post (nx, ca_en K, p, m, c, ca_en F, ca_en L, mk, tk) (nI i) := by
  unfold wpY_refuseFile
  exact ya_mis_f T (ca_T62 T (by omega)).1 h2 (by omega) (br_t rfl ⟨ca_i62 h2, br_t (by rw [ca_ec K (by omega), hk]; rfl) hp⟩)
theorem ya_rfi_n (T : ca_T K P M nn) {post : Int32 → Prop} {i : Nat} (h2 : i < 62) (hk : K i = 2) (hp : post (-9)) : wpY_refuseFile post (nx, ca_en K, p, m, c, ca_en F, ca_en L, mk, tk) (nI i) := by
  unfold wpY_refuseFile
  exact ya_mis_f T (ca_T62 T (by omega)).1 h2 (by omega) (br_t rfl ⟨ca_i62 h2, br_f (by rw [ca_ec K (by omega), hk]; decide) hp⟩)
theorem ya_rit_m {post : Int32 → Prop} {v : Int32} (h : ca_ms K v) (hp : post (-1)) : wpY_refuseItem post (nx, ca_en K, p, m, c, ca_en F, ca_en L, mk, tk) v := by
  unfold wpY_refuseItem
  exact ya_mis_t h (br_f ca_n10 hp)
theorem ya_rit_r (T : ca_T K P M nn) {post : Int32 → Prop} (hp : post (-6)) : wpY_refuseItem post (nx, ca_en K, p, m, c, ca_en F, ca_en L, mk, tk) (nI 1) := by
  unfold wpY_refuseItem
  exact ya_mis_f T (by omega) (by omega) (by have := T.1.2.1; omega) (br_t rfl (br_t rfl hp))
theorem ya_rit_t (T : ca_T K P M nn) {post : Int32 → Prop} {i : Nat} (h1 : 2 ≤ i) (h2 : i < 62) (hk : K i ≠ 0) (hp : post 0) : wpY_refuseItem post (nx, ca_en K, p, m, c, ca_en F, ca_en L, mk, tk) (nI i) := by
  unfold wpY_refuseItem
  exact ya_mis_f T (by omega) h2 hk (br_t rfl (pk_eq i 1 (fun e => by omega) (fun _ => hp)))
theorem ya_bad_t {post : Int32 → Prop} {w : Int32} (hw : w < 0 ∨ (¬ w < 0 ∧ ¬ w ≤ 255)) (hp : post 1) : wpY_badName post w := by
  rcases hw with a | ⟨a, b⟩
  · exact br_t a hp
  · exact br_f a (br_f b hp)
theorem ya_bad_f {post : Int32 → Prop} {n : Nat} (hn : n ≤ 255) (hp : post 0) : wpY_badName post (nI n) :=
  br_f (nI_pos (by omega)) (br_t (nI_le (b := 255) hn (by decide)) hp)
theorem ya_look (T : ca_T K P M nn) (A : ca_ag K P M C p m c) {post : Int32 → Prop} {f n : Nat} (hf : f < 62) (hn : n ≤ 255) (hp : ∀ r, ca_lk K P M f n r → post (nI r)) :
    wpY_lookup post (nx, ca_en K, p, m, c, ca_en F, ca_en L, mk, tk) (nI f) (nI n) := by
  refine pk_loop (fun k i (_ : Unit) => wY_lookup_2 post (nI f) (nI n) nx (ca_en K) p m c (ca_en F) (ca_en L) mk tk k (nI i)) (fun i _ => 2 ≤ i ∧ ∀ j, j < i → ca_ch K P f j → M j ≠ n) 62 2 () (by omega)
    ⟨by omega, fun j hj h => by have := h.1; omega⟩ ?_ ?_
  · intro k s I
    exact br_t (by decide) (hp 0 (Or.inl ⟨rfl, fun j hj => I.2 j hj.2.1 hj⟩))
  · intro k i s hi I go
    have tb := ca_Tb T i
    have nx : ¬ (ca_ch K P f i ∧ M i = n) → (2 ≤ i + 1 ∧ ∀ j, j < i + 1 → ca_ch K P f j → M j ≠ n) := by
      intro h
      refine ⟨by omega, fun j hj hc e => ?_⟩
      by_cases e2 : j = i
      · rw [e2] at hc e; exact h ⟨hc, e⟩
      · exact I.2 j (by omega) hc e
    refine br_f (nI_ge (b := 62) hi (by decide)) ⟨ca_i62 hi, pk_eq (K i) 0 (fun e => nm_r (nI_1 i) (go () (nx (fun z => z.1.2.2.1 e)))) (fun e => ⟨ca_i62 hi, ?_⟩) (ca_ec K (by omega)) rfl (by omega) (by omega)⟩
    have ag := A i I.1 e
    refine pk_eq (P i) f (fun e2 => ⟨ca_i62 hi, ?_⟩) (fun e2 => nm_r (nI_1 i) (go () (nx (fun z => e2 z.1.2.2.2)))) (ca_rc (by omega) ag.1) rfl (by omega) (by omega)
    exact pk_eq (M i) n (fun e3 => hp i (Or.inr ⟨⟨I.1, hi, e, e2⟩, e3⟩)) (fun e3 => nm_r (nI_1 i) (go () (nx (fun z => e3 z.2)))) (ca_rc (by omega) ag.2.1) rfl (by omega) (by omega)
theorem ya_items (T : ca_T K P M nn) {post : Int32 → Prop} (hp : post (nI (ca_cn (ca_pr K) 62))) : wpY_items post (nx, ca_en K, p, m, c, ca_en F, ca_en L, mk, tk) := by
  refine pk_loop (fun k i (s : Nat) => wY_items_4 post nx (ca_en K) p m c (ca_en F) (ca_en L) mk tk k (nI s) (nI i)) (fun i s => 2 ≤ i ∧ s = ca_cn (ca_pr K) i) 62 2 0 (by omega)
    ⟨by omega, (ca_cn_2 (ca_pr_f.mpr (by omega)) (ca_pr_f.mpr (by omega))).symm⟩ ?_ ?_
  · intro k s I
    exact br_t (by decide) (by rw [I.2]; exact hp)
  · intro k i s hi I go
    have tb := ca_Tb T i
    refine br_f (nI_ge (b := 62) hi (by decide)) ⟨ca_i62 hi, pk_eq (K i) 0 (fun e => nm_r (nI_1 i) (go s ⟨by omega, ?_⟩)) (fun e => nm_r (nI_1 s) (nm_r (nI_1 i) (go (s + 1) ⟨by omega, ?_⟩))) (ca_ec K (by omega)) rfl (by omega) (by omega)⟩
    · rw [ca_cn_f (p := ca_pr K) (n := i) (ca_pr_f.mpr (fun z => z.2 e))]; exact I.2
    · rw [ca_cn_t (p := ca_pr K) (n := i) (ca_pr_t.mpr ⟨I.1, e⟩), I.2]
theorem ya_ents (T : ca_T K P M nn) (A : ca_ag K P M C p m c) {post : Int32 → Prop} {f : Nat} (hf : f < 62) (hp : post (nI (ca_cn (ca_nc K P f) 62))) : ∃ n, wY_entries_17 post (nI f) nx (ca_en K) p m c (ca_en F) (ca_en L) mk tk n 0 2 := by
  refine pk_loop (fun k i (s : Nat) => wY_entries_17 post (nI f) nx (ca_en K) p m c (ca_en F) (ca_en L) mk tk k (nI s) (nI i)) (fun i s => 2 ≤ i ∧ s = ca_cn (ca_nc K P f) i) 62 2 0 (by omega)
    ⟨by omega, (ca_cn_2 (ca_nc_f.mpr (by omega)) (ca_nc_f.mpr (by omega))).symm⟩ ?_ ?_
  · intro k s I
    exact br_t (by decide) (by rw [I.2]; exact hp)
  · intro k i s hi I go
    have tb := ca_Tb T i
    refine br_f (nI_ge (b := 62) hi (by decide)) ⟨ca_i62 hi, pk_eq (K i) 0 (fun e => nm_r (nI_1 i) (go s ⟨by omega, ?_⟩)) (fun e => ⟨ca_i62 hi, ?_⟩) (ca_ec K (by omega)) rfl (by omega) (by omega)⟩
    · rw [ca_cn_f (p := ca_nc K P f) (n := i) (ca_nc_f.mpr (fun z => z.2.1 e))]; exact I.2
    · refine pk_eq (P i) f (fun e2 => nm_r (nI_1 s) (nm_r (nI_1 i) (go (s + 1) ⟨by omega, ?_⟩))) (fun e2 => nm_r (nI_1 i) (go s ⟨by omega, ?_⟩)) (ca_rc (by omega) (A i I.1 e).1) rfl (by omega) (by omega)
      · rw [ca_cn_t (p := ca_nc K P f) (n := i) (ca_nc_t.mpr ⟨I.1, e, e2⟩), I.2]
      · rw [ca_cn_f (p := ca_nc K P f) (n := i) (ca_nc_f.mpr (fun z => e2 z.2.2))]; exact I.2
theorem ya_within (T : ca_T K P M nn) (A : ca_ag K P M C p m c) {post : Int32 → Prop} {x f : Nat} (hx : K x ≠ 0) (hf2 : f < 62) (h1 : ca_wn P f 62 x = true → post 1) (h0 : ca_wn P f 62 x = false → post 0) :
    wpY_within post (nx, ca_en K, p, m, c, ca_en F, ca_en L, mk, tk) (nI x) (nI f) := by
  refine pk_loop (fun k i (s : Nat) => wY_within_5 post (nI f) nx (ca_en K) p m c (ca_en F) (ca_en L) mk tk k (nI s) (nI i)) (fun i s => K s ≠ 0 ∧ ca_wn P f (62 - i) s = ca_wn P f 62 x) 62 0 x (by omega) ⟨hx, rfl⟩ ?_ ?_
  · intro k s I
    exact br_t (by decide) (h0 (by rw [← I.2]; rfl))
  · intro k i s hi I go
    obtain ⟨a, b⟩ := I
    have hs := ca_T62 T a
    obtain ⟨d, hd⟩ : ∃ d, 62 - i = d + 1 := ⟨61 - i, by omega⟩
    have hd2 : 62 - (i + 1) = d := by omega
    rw [hd] at b
    simp only [ca_wn] at b
    refine br_f (nI_ge (b := 62) hi (by decide)) (pk_eq s f (fun e => ?_) (fun e => pk_eq s 1 (fun e1 => ?_) (fun e1 => ⟨ca_i62 hs.2, nm_r (ca_rc (by omega) (A s (by omega) a).1) (nm_r (nI_1 i) (go (P s) ⟨?_, ?_⟩))⟩)))
    · rw [if_pos e] at b
      exact h1 b.symm
    · rw [if_neg e, if_pos e1] at b
      exact h0 b.symm
    · have := T.2.2.2.2.1 s (by omega) a
      omega
    · rw [if_neg e, if_neg e1] at b
      rw [hd2]; exact b
theorem ya_entry (T : ca_T K P M nn) (A : ca_ag K P M C p m c) {post : Int32 → Prop} {f : Nat} {v : Int32} (hf : f < 62) (h1 : ∀ r, ca_ch K P f r → nI (ca_rk K P M f (M r)) = v → post (nI r))
    (h0 : (∀ r, ca_ch K P f r → nI (ca_rk K P M f (M r)) ≠ v) → post (-12)) : ∃ n, wY_entry_18 post (nI f) v nx (ca_en K) p m c (ca_en F) (ca_en L) mk tk n 0 0 := by
  refine pk_loop (fun k t (s : Nat) => wY_entry_18 post (nI f) v nx (ca_en K) p m c (ca_en F) (ca_en L) mk tk k (nI s) (nI t)) (fun t s => s = ca_rk K P M f t ∧ ∀ r, ca_ch K P f r → M r < t → nI (ca_rk K P M f (M r)) ≠ v) 256 0 0 (by omega)
    ⟨(ca_rk_0 K P M f).symm, fun r _ h => by omega⟩ ?_ ?_
  · intro k s I
    exact br_t (by decide) (h0 (fun r hr => I.2 r hr (by have := ca_Tb T r; omega)))
  · intro k t s ht I go
    refine br_f (nI_ge (b := 256) ht (by decide)) (ya_look T A hf (by omega) (fun r hr => ?_))
    have hb := ca_lk_b hr
    rcases hb with e | e
    · rw [e] at hr ⊢
      refine br_t (by decide) (br_t (by decide) (nm_r (nI_1 t) (go s ⟨?_, fun q hq hl => ?_⟩)))
      · rw [ca_rk_n hr]; exact I.1
      · by_cases e2 : M q = t
        · rcases hr with hr | hr
          · exact (hr.2 q hq e2).elim
          · have := hr.1.1; omega
        · exact I.2 q hq (by omega)
    · have hn : ¬ nI r ≤ 0 := nI_nle (by omega) (by omega)
      have hc : ca_ch K P f r ∧ M r = t := by
        rcases hr with hr | hr
        · omega
        · exact hr
      refine br_f hn ?_
      by_cases e3 : nI s = v
      · exact br_t e3 (h1 r hc.1 (by rw [hc.2, ← I.1]; exact e3))
      · refine br_f e3 (br_f hn (nm_r (nI_1 s) (nm_r (nI_1 t) (go (s + 1) ⟨?_, fun q hq hl => ?_⟩))))
        · rw [ca_rk_s T (by omega) hr, I.1]
        · by_cases e2 : M q = t
          · rw [e2, ← I.1]; exact e3
          · exact I.2 q hq (by omega)
end
