/-- both states are pictures of one tree and one table of extents; the reference keeps what was of the removed -/
def i_Rel (_ : Nat) (u : SX) (v : SY) : Prop :=
  ∃ (K P M C F L U : Nat → Nat) (nx ic : Nat) (dm p m c mk tk : Nat → Int32), u = ((nI nx), (nI ic), ca_en K, ca_en P, ca_en M, ca_en C, ca_en F, ca_en L, ca_en U, dm) ∧ v = ((nI nx), ca_en K, p, m, c, ca_en F, ca_en L, mk, tk) ∧ ca_R K P M C F L U nx ic p m c
theorem i_up {k : Nat} {u : SX} {v : SY} (h : i_Rel k u v) : i_Rel (k + 4) u v := h
theorem i_vc0 : wpX_init (fun u => wpY_init (fun v => i_Rel 0 u v)) := by
  unfold wpX_init
  refine nm_r (ca_upe (fun _ => 0) 1 2) ?_
  unfold wpY_init
  refine nm_r (ca_upe (fun _ => 0) 1 2) ?_
  exact ⟨ca_up (fun _ => 0) 1 2, fun _ => 0, fun _ => 0, fun _ => 0, fun _ => 0, fun _ => 0, fun _ => 0, 2, 0, fun _ => 0, fun _ => 0, fun _ => 0, fun _ => 0, fun _ => 0, fun _ => 0, rfl, rfl, ca_R0⟩
theorem i_vc_parentOf {k : Nat} {u : SX} {v : SY} (I : i_Rel k u v) (hk : k + 4 ≤ 2048) (v1 : Int32) : wpX_parentOf (fun r => wpY_parentOf (fun r' => r' = r ∧ i_Rel (k + 4) u v) v v1) u v1 := by
  obtain ⟨K, P, M, C, F, L, U, nx, ic, dm, p, m, c, mk, tk, rfl, rfl, R⟩ := I
  have rel : i_Rel (k + 4) ((nI nx), (nI ic), ca_en K, ca_en P, ca_en M, ca_en C, ca_en F, ca_en L, ca_en U, dm) ((nI nx), ca_en K, p, m, c, ca_en F, ca_en L, mk, tk) := ⟨K, P, M, C, F, L, U, nx, ic, dm, p, m, c, mk, tk, rfl, rfl, R⟩
  have T := R.1
  have A := R.2.2.2.2
  unfold wpX_parentOf
  rcases ca_arg K v1 with ⟨i, h1, h2, rfl, hki⟩ | hm
  · by_cases e : i = 1
    · subst e
      refine xa_rnr_r T (br_f (by decide) ?_)
      unfold wpY_parentOf
      exact ya_rit_r T (br_f (by decide) ⟨rfl, rel⟩)
    · refine xa_rnr_t T (by omega) h2 hki (br_t rfl ⟨ca_i62 h2, ?_⟩)
      unfold wpY_parentOf
      refine ya_rit_t T (by omega) h2 hki (br_t (by decide) ⟨ca_i62 h2, ?_, rel⟩)
      rw [ca_ec P (by omega)]
      exact ca_rc (by omega) (A i (by omega) hki).1
  · refine xa_rnr_m hm (br_f (by decide) ?_)
    unfold wpY_parentOf
    exact ya_rit_m hm (br_f (by decide) ⟨rfl, rel⟩)
theorem i_vc_nameOf {k : Nat} {u : SX} {v : SY} (I : i_Rel k u v) (hk : k + 4 ≤ 2048) (v1 : Int32) : wpX_nameOf (fun r => wpY_nameOf (fun r' => r' = r ∧ i_Rel (k + 4) u v) v v1) u v1 := by
  obtain ⟨K, P, M, C, F, L, U, nx, ic, dm, p, m, c, mk, tk, rfl, rfl, R⟩ := I
  have rel : i_Rel (k + 4) ((nI nx), (nI ic), ca_en K, ca_en P, ca_en M, ca_en C, ca_en F, ca_en L, ca_en U, dm) ((nI nx), ca_en K, p, m, c, ca_en F, ca_en L, mk, tk) := ⟨K, P, M, C, F, L, U, nx, ic, dm, p, m, c, mk, tk, rfl, rfl, R⟩
  have T := R.1
  have A := R.2.2.2.2
  unfold wpX_nameOf
  rcases ca_arg K v1 with ⟨i, h1, h2, rfl, hki⟩ | hm
  · by_cases e : i = 1
    · subst e
      refine xa_rnr_r T (br_f (by decide) ?_)
      unfold wpY_nameOf
      exact ya_rit_r T (br_f (by decide) ⟨rfl, rel⟩)
    · refine xa_rnr_t T (by omega) h2 hki (br_t rfl ⟨ca_i62 h2, ?_⟩)
      unfold wpY_nameOf
      refine ya_rit_t T (by omega) h2 hki (br_t (by decide) ⟨ca_i62 h2, ?_, rel⟩)
      rw [ca_ec M (by omega)]
      exact ca_rc (by omega) (A i (by omega) hki).2.1
  · refine xa_rnr_m hm (br_f (by decide) ?_)
    unfold wpY_nameOf
    exact ya_rit_m hm (br_f (by decide) ⟨rfl, rel⟩)
theorem i_vc_kindOf {k : Nat} {u : SX} {v : SY} (I : i_Rel k u v) (hk : k + 4 ≤ 2048) (v1 : Int32) : wpX_kindOf (fun r => wpY_kindOf (fun r' => r' = r ∧ i_Rel (k + 4) u v) v v1) u v1 := by
  obtain ⟨K, P, M, C, F, L, U, nx, ic, dm, p, m, c, mk, tk, rfl, rfl, R⟩ := I
  have rel : i_Rel (k + 4) ((nI nx), (nI ic), ca_en K, ca_en P, ca_en M, ca_en C, ca_en F, ca_en L, ca_en U, dm) ((nI nx), ca_en K, p, m, c, ca_en F, ca_en L, mk, tk) := ⟨K, P, M, C, F, L, U, nx, ic, dm, p, m, c, mk, tk, rfl, rfl, R⟩
  have T := R.1
  unfold wpX_kindOf
  rcases ca_arg K v1 with ⟨i, h1, h2, rfl, hki⟩ | hm
  · refine xa_there_t T h1 h2 hki (br_f ca_n10 ⟨ca_i62 h2, ?_⟩)
    unfold wpY_kindOf
    exact ya_mis_f T h1 h2 hki (br_t rfl ⟨ca_i62 h2, rfl, rel⟩)
  · refine xa_there_f hm (br_t rfl ?_)
    unfold wpY_kindOf
    exact ya_mis_t hm (br_f ca_n10 ⟨rfl, rel⟩)
theorem i_vc_items {k : Nat} {u : SX} {v : SY} (I : i_Rel k u v) (hk : k + 4 ≤ 2048) : wpX_items (fun r => wpY_items (fun r' => r' = r ∧ i_Rel (k + 4) u v) v) u := by
  obtain ⟨K, P, M, C, F, L, U, nx, ic, dm, p, m, c, mk, tk, rfl, rfl, R⟩ := I
  have rel : i_Rel (k + 4) ((nI nx), (nI ic), ca_en K, ca_en P, ca_en M, ca_en C, ca_en F, ca_en L, ca_en U, dm) ((nI nx), ca_en K, p, m, c, ca_en F, ca_en L, mk, tk) := ⟨K, P, M, C, F, L, U, nx, ic, dm, p, m, c, mk, tk, rfl, rfl, R⟩
  have T := R.1
  unfold wpX_items
  refine ya_items T ⟨?_, rel⟩
  rw [← R.2.2.1.1]
theorem i_vc_entries {k : Nat} {u : SX} {v : SY} (I : i_Rel k u v) (hk : k + 4 ≤ 2048) (v1 : Int32) : wpX_entries (fun r => wpY_entries (fun r' => r' = r ∧ i_Rel (k + 4) u v) v v1) u v1 := by
  obtain ⟨K, P, M, C, F, L, U, nx, ic, dm, p, m, c, mk, tk, rfl, rfl, R⟩ := I
  have rel : i_Rel (k + 4) ((nI nx), (nI ic), ca_en K, ca_en P, ca_en M, ca_en C, ca_en F, ca_en L, ca_en U, dm) ((nI nx), ca_en K, p, m, c, ca_en F, ca_en L, mk, tk) := ⟨K, P, M, C, F, L, U, nx, ic, dm, p, m, c, mk, tk, rfl, rfl, R⟩
  have T := R.1
  have A := R.2.2.2.2
  unfold wpX_entries
  rcases ca_arg K v1 with ⟨i, h1, h2, rfl, hki⟩ | hm
  · by_cases e : K i = 2
    · refine xa_rfo_t T h2 e (br_t rfl (xa_count T h2 ?_))
      unfold wpY_entries
      exact ya_rfo_t T h2 e (br_t (by decide) (ya_ents T A h2 ⟨rfl, rel⟩))
    · have e1 : K i = 1 := by have := ca_Tb T i; omega
      refine xa_rfo_n T h2 e1 (br_f (by decide) ?_)
      unfold wpY_entries
      exact ya_rfo_n T h2 e1 (br_f (by decide) ⟨rfl, rel⟩)
  · refine xa_rfo_m hm (br_f (by decide) ?_)
    unfold wpY_entries
    exact ya_rfo_m hm (br_f (by decide) ⟨rfl, rel⟩)
theorem i_vc_entry {k : Nat} {u : SX} {v : SY} (I : i_Rel k u v) (hk : k + 4 ≤ 2048) (v1 : Int32) (v2 : Int32) : wpX_entry (fun r => wpY_entry (fun r' => r' = r ∧ i_Rel (k + 4) u v) v v1 v2) u v1 v2 := by
  obtain ⟨K, P, M, C, F, L, U, nx, ic, dm, p, m, c, mk, tk, rfl, rfl, R⟩ := I
  have rel : i_Rel (k + 4) ((nI nx), (nI ic), ca_en K, ca_en P, ca_en M, ca_en C, ca_en F, ca_en L, ca_en U, dm) ((nI nx), ca_en K, p, m, c, ca_en F, ca_en L, mk, tk) := ⟨K, P, M, C, F, L, U, nx, ic, dm, p, m, c, mk, tk, rfl, rfl, R⟩
  have T := R.1
  have A := R.2.2.2.2
  unfold wpX_entry
  rcases ca_arg K v1 with ⟨i, h1, h2, rfl, hki⟩ | hm
  · by_cases e : K i = 2
    · refine xa_rfo_t T h2 e (br_t rfl (xa_entry T h2 (fun r hr he => ?_) (fun hn => ?_)))
      · unfold wpY_entry
        refine ya_rfo_t T h2 e (br_t (by decide) (ya_entry T A h2 (fun s hs he2 => ⟨?_, rel⟩) (fun hn => (hn r hr he).elim)))
        rw [ca_rk_u T hs hr (he2.trans he.symm)]
      · unfold wpY_entry
        exact ya_rfo_t T h2 e (br_t (by decide) (ya_entry T A h2 (fun s hs he2 => (hn s hs he2).elim) (fun _ => ⟨rfl, rel⟩)))
    · have e1 : K i = 1 := by have := ca_Tb T i; omega
      refine xa_rfo_n T h2 e1 (br_f (by decide) ?_)
      unfold wpY_entry
      exact ya_rfo_n T h2 e1 (br_f (by decide) ⟨rfl, rel⟩)
  · refine xa_rfo_m hm (br_f (by decide) ?_)
    unfold wpY_entry
    exact ya_rfo_m hm (br_f (by decide) ⟨rfl, rel⟩)
theorem i_vc_find {k : Nat} {u : SX} {v : SY} (I : i_Rel k u v) (hk : k + 4 ≤ 2048) (v1 : Int32) (v2 : Int32) : wpX_find (fun r => wpY_find (fun r' => r' = r ∧ i_Rel (k + 4) u v) v v1 v2) u v1 v2 := by
  obtain ⟨K, P, M, C, F, L, U, nx, ic, dm, p, m, c, mk, tk, rfl, rfl, R⟩ := I
  have rel : i_Rel (k + 4) ((nI nx), (nI ic), ca_en K, ca_en P, ca_en M, ca_en C, ca_en F, ca_en L, ca_en U, dm) ((nI nx), ca_en K, p, m, c, ca_en F, ca_en L, mk, tk) := ⟨K, P, M, C, F, L, U, nx, ic, dm, p, m, c, mk, tk, rfl, rfl, R⟩
  have T := R.1
  have A := R.2.2.2.2
  unfold wpX_find
  rcases ca_arg K v1 with ⟨i, h1, h2, rfl, hki⟩ | hm
  · by_cases e : K i = 2
    · rcases ca_nam v2 with ⟨n, hn, rfl⟩ | hw
      · refine xa_rpl_t T h2 e hn (br_t rfl (xa_named T h2 hn (fun r hr => ?_)))
        rcases ca_lk_b hr with e0 | e0
        · rw [e0] at hr
          rw [e0]
          refine br_t rfl ?_
          unfold wpY_find
          refine ya_rfo_t T h2 e (br_t (by decide) (ya_bad_f hn (br_t rfl (ya_look T A h2 hn (fun s hs => ?_)))))
          rw [ca_lk_u T hs hr]
          exact br_t (by decide) ⟨rfl, rel⟩
        · refine br_f (nI_ne0 (by omega) (by omega)) ?_
          unfold wpY_find
          refine ya_rfo_t T h2 e (br_t (by decide) (ya_bad_f hn (br_t rfl (ya_look T A h2 hn (fun s hs => ?_)))))
          rw [ca_lk_u T hs hr]
          exact br_f (nI_nle (by omega) (by omega)) ⟨rfl, rel⟩
      · refine xa_rpl_b T h2 e hw (br_f (by decide) ?_)
        unfold wpY_find
        exact ya_rfo_t T h2 e (br_t (by decide) (ya_bad_t hw (br_f ca_n10 ⟨rfl, rel⟩)))
    · have e1 : K i = 1 := by have := ca_Tb T i; omega
      refine xa_rpl_n T h2 e1 (br_f (by decide) ?_)
      unfold wpY_find
      exact ya_rfo_n T h2 e1 (br_f (by decide) ⟨rfl, rel⟩)
  · refine xa_rpl_m hm (br_f (by decide) ?_)
    unfold wpY_find
    exact ya_rfo_m hm (br_f (by decide) ⟨rfl, rel⟩)
theorem i_vc_blocks {k : Nat} {u : SX} {v : SY} (I : i_Rel k u v) (hk : k + 4 ≤ 2048) (v1 : Int32) : wpX_blocks (fun r => wpY_blocks (fun r' => r' = r ∧ i_Rel (k + 4) u v) v v1) u v1 := by
  obtain ⟨K, P, M, C, F, L, U, nx, ic, dm, p, m, c, mk, tk, rfl, rfl, R⟩ := I
  have rel : i_Rel (k + 4) ((nI nx), (nI ic), ca_en K, ca_en P, ca_en M, ca_en C, ca_en F, ca_en L, ca_en U, dm) ((nI nx), ca_en K, p, m, c, ca_en F, ca_en L, mk, tk) := ⟨K, P, M, C, F, L, U, nx, ic, dm, p, m, c, mk, tk, rfl, rfl, R⟩
  have T := R.1
  have B := R.2.1
  have A := R.2.2.2.2
  unfold wpX_blocks
  rcases ca_arg K v1 with ⟨i, h1, h2, rfl, hki⟩ | hm
  · by_cases e : K i = 1
    · have h3 : 2 ≤ i := by
        by_cases z : i = 1
        · rw [z, T.1.2.1] at e; omega
        · omega
      refine xa_rfi_t T h2 e (br_t rfl (xa_blocks B h2 ?_))
      unfold wpY_blocks
      exact ya_rfi_t T h2 e (br_t (by decide) (ya_blocks h2 (A i h3 hki).2.2 (B.1 i) ⟨rfl, rel⟩))
    · have e1 : K i = 2 := by have := ca_Tb T i; omega
      refine xa_rfi_n T h2 e1 (br_f (by decide) ?_)
      unfold wpY_blocks
      exact ya_rfi_n T h2 e1 (br_f (by decide) ⟨rfl, rel⟩)
  · refine xa_rfi_m hm (br_f (by decide) ?_)
    unfold wpY_blocks
    exact ya_rfi_m hm (br_f (by decide) ⟨rfl, rel⟩)
theorem i_vc_blockAt {k : Nat} {u : SX} {v : SY} (I : i_Rel k u v) (hk : k + 4 ≤ 2048) (v1 : Int32) (v2 : Int32) : wpX_blockAt (fun r => wpY_blockAt (fun r' => r' = r ∧ i_Rel (k + 4) u v) v v1 v2) u v1 v2 := by
  obtain ⟨K, P, M, C, F, L, U, nx, ic, dm, p, m, c, mk, tk, rfl, rfl, R⟩ := I
  have rel : i_Rel (k + 4) ((nI nx), (nI ic), ca_en K, ca_en P, ca_en M, ca_en C, ca_en F, ca_en L, ca_en U, dm) ((nI nx), ca_en K, p, m, c, ca_en F, ca_en L, mk, tk) := ⟨K, P, M, C, F, L, U, nx, ic, dm, p, m, c, mk, tk, rfl, rfl, R⟩
  have T := R.1
  have B := R.2.1
  have A := R.2.2.2.2
  unfold wpX_blockAt
  rcases ca_arg K v1 with ⟨i, h1, h2, rfl, hki⟩ | hm
  · by_cases e : K i = 1
    · have h3 : 2 ≤ i := by
        by_cases z : i = 1
        · rw [z, T.1.2.1] at e; omega
        · omega
      refine xa_rfi_t T h2 e (br_t rfl ?_)
      by_cases hv : v2 < 0
      · refine br_f (fun z => Int32.not_lt.mpr z hv) ?_
        unfold wpY_blockAt
        exact ya_rfi_t T h2 e (br_t (by decide) (ya_blockAtN h2 hv ⟨rfl, rel⟩))
      · refine br_t (Int32.not_lt.mp hv) ?_
        obtain ⟨x, hx, rfl⟩ := nI_of hv
        refine xa_blockAt B h2 hx ?_
        unfold wpY_blockAt
        exact ya_rfi_t T h2 e (br_t (by decide) (ya_blockAt B h2 (A i h3 hki).2.2 hx ⟨rfl, rel⟩))
    · have e1 : K i = 2 := by have := ca_Tb T i; omega
      refine xa_rfi_n T h2 e1 (br_f (by decide) ?_)
      unfold wpY_blockAt
      exact ya_rfi_n T h2 e1 (br_f (by decide) ⟨rfl, rel⟩)
  · refine xa_rfi_m hm (br_f (by decide) ?_)
    unfold wpY_blockAt
    exact ya_rfi_m hm (br_f (by decide) ⟨rfl, rel⟩)
theorem i_vc_free {k : Nat} {u : SX} {v : SY} (I : i_Rel k u v) (hk : k + 4 ≤ 2048) : wpX_free (fun r => wpY_free (fun r' v' => r' = r ∧ i_Rel (k + 4) u v') v) u := by
  obtain ⟨K, P, M, C, F, L, U, nx, ic, dm, p, m, c, mk, tk, rfl, rfl, R⟩ := I
  have T := R.1
  have B := R.2.1
  have hC := R.2.2.2.1
  have A := R.2.2.2.2
  refine xa_free B.2.2.2.1 ?_
  unfold wpY_free
  refine ya_note T B A hC (fun s hs => ya_free8 B.2.2.2.1 hs ⟨rfl, ?_⟩)
  exact ⟨K, P, M, C, F, L, U, nx, ic, dm, p, m, c, mk, s, rfl, rfl, R⟩
