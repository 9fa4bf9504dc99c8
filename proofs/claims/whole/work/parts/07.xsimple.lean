section
/-! numbers behind the walks -/
theorem ca_ec (f : Nat → Nat) {i : Nat} (h : i < 2 ^ 31) : ca_en f (nI i).toNatClampNeg = nI (f i) := by
  unfold ca_en
  rw [nI_clamp h]
theorem ca_rc {a : Nat → Int32} {i : Nat} {x : Int32} (h : i < 2 ^ 31) (e : a i = x) : a (nI i).toNatClampNeg = x := by
  rw [nI_clamp h, e]
theorem ca_n10 : ¬ (1 : Int32) = 0 := by decide
theorem ca_g61 {i : Nat} (h : i < 62) : ¬ (61 : Int32) < nI i := nI_nlt (a := 61) (b := i) (by omega) (by decide)
theorem ca_g62 : (61 : Int32) < nI 62 := by decide
theorem ca_i62 {i : Nat} (h : i < 62) : vp_in (nI i) 62 := vp_in_nI h (by decide)
theorem ca_cn_2 {p : Nat → Bool} (h0 : p 0 = false) (h1 : p 1 = false) : ca_cn p 2 = 0 := by
  rw [ca_cn_f (p := p) (n := 1) h1, ca_cn_f (p := p) (n := 0) h0]
  rfl
theorem ca_b0 : vp_nar .boolean 0 = 0 := by decide
theorem ca_b1 : vp_nar .boolean 1 = 1 := by decide
section
variable {K P M : Nat → Nat} {nn : Nat}
theorem ca_Tb (T : ca_T K P M nn) (i : Nat) : K i ≤ 2 ∧ P i < 62 ∧ M i ≤ 255 := T.2.2.2.1 i
theorem ca_T62 (T : ca_T K P M nn) {i : Nat} (h : K i ≠ 0) : 1 ≤ i ∧ i < 62 := by
  obtain ⟨⟨t0, _⟩, tn, tz, _⟩ := T
  refine ⟨?_, ?_⟩
  · by_cases e : i = 0
    · rw [e] at h; exact (h t0).elim
    · omega
  · by_cases e : i < 62
    · exact e
    · exact (h (tz i (by omega))).elim
end
/-! X: the small methods -/
section
variable {nx ic : Int32} {K P M C F L U : Nat → Nat} {dm : Nat → Int32} {nn : Nat}
theorem xa_there_t (T : ca_T K P M nn) {post : Int32 → Prop} {i : Nat} (h1 : 1 ≤ i) (h2 : i < 62) (hk : K i ≠ 0) (hp : post 1) : wpX_isThere post (nx, ic, ca_en K, ca_en P, ca_en M, ca_en C, ca_en F, ca_en L, ca_en U, dm) (nI i) :=
  br_f (nI_nlt (b := 1) h1 (by omega)) (br_f (ca_g61 h2) ⟨ca_i62 h2, pk_eq (K i) 0 (fun e => (hk e).elim) (fun _ => hp) (ca_ec K (by omega)) rfl (by have := ca_Tb T i; omega) (by omega)⟩)
theorem xa_there_f {post : Int32 → Prop} {v : Int32} (h : ca_ms K v) (hp : post 0) : wpX_isThere post (nx, ic, ca_en K, ca_en P, ca_en M, ca_en C, ca_en F, ca_en L, ca_en U, dm) v := by
  by_cases a : v < 1
  · exact br_t a hp
  · refine br_f a ?_
    by_cases b : 61 < v
    · exact br_t b hp
    · refine br_f b ?_
      rcases h with h | h | ⟨i, h1, h2, rfl, h3⟩
      · exact (a h).elim
      · exact (b h).elim
      · exact ⟨ca_i62 h2, br_t (by rw [ca_ec K (by omega), h3]; rfl) hp⟩
theorem xa_rfo_m {post : Int32 → Prop} {v : Int32} (h : ca_ms K v) (hp : post (-1)) : wpX_refusalAsFolder post (nx, ic, ca_en K, ca_en P, ca_en M, ca_en C, ca_en F, ca_en L, ca_en U, dm) v := by
  unfold wpX_refusalAsFolder
  exact xa_there_f h (br_t rfl hp)
theorem xa_rfo_t (T : ca_T K P M nn) {post : Int32 → Prop} {i : Nat} (h2 : i < 62) (hk : K i = 2) (hp : post 0) : wpX_refusalAsFolder post (nx, ic, ca_en K, ca_en P, ca_en M, ca_en C, ca_en F, ca_en L, ca_en U, dm) (nI i) := by
  unfold wpX_refusalAsFolder
  exact xa_there_t T (ca_T62 T (by omega)).1 h2 (by omega) (br_f ca_n10 ⟨ca_i62 h2, br_t (by rw [ca_ec K (by omega), hk]; rfl) hp⟩)
theorem xa_rfo_n (T : ca_T K P M nn) {post : Int32 → Prop} {i : Nat} (h2 : i < 62) (hk : K i = 1) (hp : post (-2)) : wpX_refusalAsFolder post (nx, ic, ca_en K, ca_en P, ca_en M, ca_en C, ca_en F, ca_en L, ca_en U, dm) (nI i) := by
  unfold wpX_refusalAsFolder
  exact xa_there_t T (ca_T62 T (by omega)).1 h2 (by omega) (br_f ca_n10 ⟨ca_i62 h2, br_f (by rw [ca_ec K (by omega), hk]; decide) hp⟩)
theorem xa_rfi_m {post : Int32 → Prop} {v : Int32} (h : ca_ms K v) (hp : post (-1)) : wpX_refusalAsFile post (nx, ic, ca_en K, ca_en P, ca_en M, ca_en C, ca_en F, ca_en L, ca_en U, dm) v := by
  unfold wpX_refusalAsFile
  exact xa_there_f h (br_t rfl hp)
theorem xa_rfi_t (T : ca_T K P M nn) {post : Int32 → Prop} {i : Nat} (h2 : i < 62) (hk : K i = 1) (hp : post 0) : wpX_refusalAsFile post (nx, ic, ca_en K, ca_en P, ca_en M, ca_en C, ca_en F, ca_en L, ca_en U, dm) (nI i) := by
  unfold wpX_refusalAsFile
  exact xa_there_t T (ca_T62 T (by omega)).1 h2 (by omega) (br_f ca_n10 ⟨ca_i62 h2, br_t (by rw [ca_ec K (by omega), hk]; rfl) hp⟩)
theorem xa_rfi_n (T : ca_T K P M nn) {post : Int32 → Prop} {i : Nat} (h2 : i < 62) (hk : K i = 2) (hp : post (-9)) : wpX_refusalAsFile post (nx, ic, ca_en K, ca_en P, ca_en M, ca_en C, ca_en F, ca_en L, ca_en U, dm) (nI i) := by
  unfold wpX_refusalAsFile
  exact xa_there_t T (ca_T62 T (by omega)).1 h2 (by omega) (br_f ca_n10 ⟨ca_i62 h2, br_f (by rw [ca_ec K (by omega), hk]; decide) hp⟩)
theorem xa_rnr_m {post : Int32 → Prop} {v : Int32} (h : ca_ms K v) (hp : post (-1)) : wpX_refusalAsNonRoot post (nx, ic, ca_en K, ca_en P, ca_en M, ca_en C, ca_en F, ca_en L, ca_en U, dm) v := by
  unfold wpX_refusalAsNonRoot
  exact xa_there_f h (br_t rfl hp)
theorem xa_rnr_r (T : ca_T K P M nn) {post : Int32 → Prop} (hp : post (-6)) : wpX_refusalAsNonRoot post (nx, ic, ca_en K, ca_en P, ca_en M, ca_en C, ca_en F, ca_en L, ca_en U, dm) (nI 1) := by
  unfold wpX_refusalAsNonRoot
  exact xa_there_t T (by omega) (by omega) (by have := T.1.2.1; omega) (br_f ca_n10 (br_t rfl hp))
theorem xa_rnr_t (T : ca_T K P M nn) {post : Int32 → Prop} {i : Nat} (h1 : 2 ≤ i) (h2 : i < 62) (hk : K i ≠ 0) (hp : post 0) : wpX_refusalAsNonRoot post (nx, ic, ca_en K, ca_en P, ca_en M, ca_en C, ca_en F, ca_en L, ca_en U, dm) (nI i) := by
  unfold wpX_refusalAsNonRoot
  exact xa_there_t T (by omega) h2 hk (br_f ca_n10 (pk_eq i 1 (fun e => by omega) (fun _ => hp)))
theorem xa_rpl_m {post : Int32 → Prop} {v w : Int32} (h : ca_ms K v) (hp : post (-1)) : wpX_refusalOfPlace post (nx, ic, ca_en K, ca_en P, ca_en M, ca_en C, ca_en F, ca_en L, ca_en U, dm) v w := by
  unfold wpX_refusalOfPlace
  exact xa_rfo_m h (br_f (by decide) hp)
theorem xa_rpl_n (T : ca_T K P M nn) {post : Int32 → Prop} {i : Nat} {w : Int32} (h2 : i < 62) (hk : K i = 1) (hp : post (-2)) : wpX_refusalOfPlace post (nx, ic, ca_en K, ca_en P, ca_en M, ca_en C, ca_en F, ca_en L, ca_en U, dm) (nI i) w := by
  unfold wpX_refusalOfPlace
  exact xa_rfo_n T h2 hk (br_f (by decide) hp)
theorem xa_rpl_b (T : ca_T K P M nn) {post : Int32 → Prop} {i : Nat} {w : Int32} (h2 : i < 62) (hk : K i = 2) (hw : w < 0 ∨ (¬ w < 0 ∧ ¬ w ≤ 255)) (hp : post (-3)) : wpX_refusalOfPlace post (nx, ic, ca_en K, ca_en P, ca_en M, ca_en C, ca_en F, ca_en L, ca_en U, dm) (nI i) w := by
  unfold wpX_refusalOfPlace
  exact xa_rfo_t T h2 hk (br_t rfl (by
    rcases hw with a | ⟨a, b⟩
    · exact br_t a hp
    · exact br_f a (br_t (Int32.not_le.mp b) hp)))
theorem xa_rpl_t (T : ca_T K P M nn) {post : Int32 → Prop} {i n : Nat} (h2 : i < 62) (hk : K i = 2) (hn : n ≤ 255) (hp : post 0) : wpX_refusalOfPlace post (nx, ic, ca_en K, ca_en P, ca_en M, ca_en C, ca_en F, ca_en L, ca_en U, dm) (nI i) (nI n) := by
  unfold wpX_refusalOfPlace
  exact xa_rfo_t T h2 hk (br_t rfl (br_f (nI_pos (by omega)) (br_f (nI_nlt (a := 255) (b := n) hn (by decide)) hp)))
theorem xa_kid (T : ca_T K P M nn) {post : Int32 → Prop} {i f : Nat} (hi : i < 62) (hf : f < 62) (h0 : ¬ (K i ≠ 0 ∧ P i = f) → post 0) (h1 : K i ≠ 0 → P i = f → post 1) :
    wpX_isChild post (nx, ic, ca_en K, ca_en P, ca_en M, ca_en C, ca_en F, ca_en L, ca_en U, dm) (nI i) (nI f) :=
  ⟨ca_i62 hi, pk_eq (K i) 0 (fun e => h0 (by omega))
    (fun e => ⟨ca_i62 hi, pk_eq (P i) f (fun e2 => h1 e e2) (fun e2 => h0 (by omega)) (ca_ec P (by omega)) rfl (by have := ca_Tb T i; omega) (by omega)⟩)
    (ca_ec K (by omega)) rfl (by have := ca_Tb T i; omega) (by omega)⟩
theorem xa_named (T : ca_T K P M nn) {post : Int32 → Prop} {f n : Nat} (hf : f < 62) (hn : n ≤ 255) (hp : ∀ r, ca_lk K P M f n r → post (nI r)) :
    wpX_childNamed post (nx, ic, ca_en K, ca_en P, ca_en M, ca_en C, ca_en F, ca_en L, ca_en U, dm) (nI f) (nI n) :=
  pk_loop (fun k i (_ : Unit) => wX_childNamed_2 post (nI f) (nI n) nx ic (ca_en K) (ca_en P) (ca_en M) (ca_en C) (ca_en F) (ca_en L) (ca_en U) dm k (nI i)) (fun i _ => 2 ≤ i ∧ ∀ j, j < i → ca_ch K P f j → M j ≠ n) 62 2 () (by omega)
    ⟨by omega, fun j hj h => by have := h.1; omega⟩
    (fun k s I => br_t ca_g62 (hp 0 (Or.inl ⟨rfl, fun j hj => I.2 j hj.2.1 hj⟩)))
    (fun k i s hi I go => br_f (ca_g61 hi) (xa_kid T hi hf
      (fun h => br_t rfl (nm_r (nI_1 i) (go () ⟨by omega, fun j hj hc => by
        by_cases e : j = i
        · rw [e] at hc; exact (h ⟨hc.2.2.1, hc.2.2.2⟩).elim
        · exact I.2 j (by omega) hc⟩)))
      (fun hk hq => br_f ca_n10 ⟨ca_i62 hi, pk_eq (M i) n (fun e => hp i (Or.inr ⟨⟨I.1, hi, hk, hq⟩, e⟩))
        (fun e => nm_r (nI_1 i) (go () ⟨by omega, fun j hj hc => by
          by_cases e2 : j = i
          · rw [e2]; exact e
          · exact I.2 j (by omega) hc⟩))
        (ca_ec M (by omega)) rfl (by have := ca_Tb T i; omega) (by omega)⟩)))
theorem xa_below (T : ca_T K P M nn) {post : Int32 → Prop} {f n : Nat} (hf : f < 62) (hn : n ≤ 256) (hp : post (nI (ca_rk K P M f n))) :
    wpX_childrenNamedBelow post (nx, ic, ca_en K, ca_en P, ca_en M, ca_en C, ca_en F, ca_en L, ca_en U, dm) (nI f) (nI n) :=
  pk_loop (fun k i (s : Nat) => wX_childrenNamedBelow_5 post (nI f) (nI n) nx ic (ca_en K) (ca_en P) (ca_en M) (ca_en C) (ca_en F) (ca_en L) (ca_en U) dm k (nI s) (nI i)) (fun i s => 2 ≤ i ∧ s = ca_cn (ca_cb K P M f n) i) 62 2 0 (by omega)
    ⟨by omega, (ca_cn_2 (ca_cb_f.mpr (by omega)) (ca_cb_f.mpr (by omega))).symm⟩
    (fun k s I => br_t ca_g62 (by rw [I.2]; exact hp))
    (fun k i s hi I go => br_f (ca_g61 hi) (xa_kid T hi hf
      (fun h => br_t rfl (nm_r (nI_1 i) (go s ⟨by omega, by
        rw [ca_cn_f (p := ca_cb K P M f n) (n := i) (ca_cb_f.mpr (fun z => h ⟨z.2.1, z.2.2.1⟩))]; exact I.2⟩)))
      (fun hk hq => br_f ca_n10 ⟨ca_i62 hi, pk_le n (M i)
        (fun e => nm_r (nI_1 i) (go s ⟨by omega, by
          rw [ca_cn_f (p := ca_cb K P M f n) (n := i) (ca_cb_f.mpr (fun z => by omega))]; exact I.2⟩))
        (fun e => nm_r (nI_1 s) (nm_r (nI_1 i) (go (s + 1) ⟨by omega, by
          rw [ca_cn_t (p := ca_cb K P M f n) (n := i) (ca_cb_t.mpr ⟨I.1, hk, hq, e⟩), I.2]⟩)))
        rfl (ca_ec M (by omega)) (by omega) (by have := ca_Tb T i; omega)⟩)))
theorem xa_count (T : ca_T K P M nn) {post : Int32 → Prop} {f : Nat} (hf : f < 62) (hp : post (nI (ca_cn (ca_nc K P f) 62))) : wpX_childCount post (nx, ic, ca_en K, ca_en P, ca_en M, ca_en C, ca_en F, ca_en L, ca_en U, dm) (nI f) := by
  unfold wpX_childCount
  exact xa_below (n := 256) T hf (by omega) (by rw [ca_rk_all T]; exact hp)
theorem xa_within (T : ca_T K P M nn) {post : Int32 → Prop} {x f : Nat} (hx : K x ≠ 0) (hf : 2 ≤ f) (hf2 : f < 62) (h1 : ca_wn P f 62 x = true → post 1) (h0 : ca_wn P f 62 x = false → post 0) :
    wpX_isWithin post (nx, ic, ca_en K, ca_en P, ca_en M, ca_en C, ca_en F, ca_en L, ca_en U, dm) (nI x) (nI f) :=
  pk_loop (fun k i (s : Nat) => wX_isWithin_5 post (nI f) nx ic (ca_en K) (ca_en P) (ca_en M) (ca_en C) (ca_en F) (ca_en L) (ca_en U) dm k (nI s) (nI i))
    (fun i s => s < 62 ∧ ((K s ≠ 0 ∧ ca_wn P f (62 - i) s = ca_wn P f 62 x) ∨ (s = 0 ∧ ca_wn P f 62 x = false))) 62 0 x (by omega)
    ⟨(ca_T62 T hx).2, Or.inl ⟨hx, rfl⟩⟩
    (fun k s I => br_t (by decide) (h0 (by
      rcases I.2 with a | a
      · rw [← a.2]; rfl
      · exact a.2)))
    (fun k i s hi I go => br_f (nI_ge (b := 62) hi (by decide)) (by
      rcases I.2 with ⟨a, b⟩ | ⟨a, b⟩
      · have hs := ca_T62 T a
        obtain ⟨d, hd⟩ : ∃ d, 62 - i = d + 1 := ⟨61 - i, by omega⟩
        have hd2 : 62 - (i + 1) = d := by omega
        rw [hd] at b
        simp only [ca_wn] at b
        refine br_f (nI_ne0 (by omega) (by omega)) (pk_eq s f (fun e => ?_) (fun e => ⟨ca_i62 hs.2, nm_r (ca_ec P (by omega)) (nm_r (nI_1 i) (go (P s) ⟨(ca_Tb T s).2.1, ?_⟩))⟩))
        · rw [if_pos e] at b
          exact h1 b.symm
        · rw [if_neg e] at b
          by_cases e1 : s = 1
          · rw [if_pos e1] at b
            exact Or.inr ⟨by rw [e1]; exact T.1.2.2.2, b.symm⟩
          · rw [if_neg e1] at b
            have := T.2.2.2.2.1 s (by omega) a
            exact Or.inl ⟨by omega, by rw [hd2]; exact b⟩
      · exact br_t (by rw [a]; rfl) (h0 b)))
end
end
