theorem i_vc_shrink {k : Nat} {u : SX} {v : SY} (I : i_Rel k u v) (hk : k + 4 ≤ 2048) (v1 : Int32) : wpX_shrink (fun r u' => wpY_shrink (fun r' v' => r' = r ∧ i_Rel (k + 4) u' v') v v1) u v1 := by
  obtain ⟨K, P, M, C, F, L, U, nx, ic, dm, p, m, c, mk, tk, rfl, rfl, R⟩ := I
  have rel : i_Rel (k + 4) ((nI nx), (nI ic), ca_en K, ca_en P, ca_en M, ca_en C, ca_en F, ca_en L, ca_en U, dm) ((nI nx), ca_en K, p, m, c, ca_en F, ca_en L, mk, tk) := ⟨K, P, M, C, F, L, U, nx, ic, dm, p, m, c, mk, tk, rfl, rfl, R⟩
  have T := R.1
  have B := R.2.1
  have A := R.2.2.2.2
  unfold wpX_shrink
  rcases ca_arg K v1 with ⟨i, h1, h2, rfl, hki⟩ | hm
  · by_cases e : K i = 1
    · have h3 : 2 ≤ i := by
        by_cases z : i = 1
        · rw [z, T.1.2.1] at e; omega
        · omega
      have h6 := B.1 i
      have hci : c (nI i).toNatClampNeg = nI (C i) := ca_rc (by omega) (A i h3 hki).2.2
      refine xa_rfi_t T h2 e (br_t rfl ⟨ca_i62 h2, pk_eq (C i) 0 (fun e0 => ?_) (fun e0 => ?_) (ca_ec C (by omega)) rfl (by omega) (by omega)⟩)
      · unfold wpY_shrink
        exact ya_rfi_t T h2 e (br_t (by decide) ⟨ca_i62 h2, br_t (by rw [hci, e0]; rfl) ⟨rfl, rel⟩⟩)
      · obtain ⟨q, hq⟩ : ∃ q, C i = q + 1 := ⟨C i - 1, by omega⟩
        refine xa_drop B h2 hq ?_
        have e1 : upd c (nI i).toNatClampNeg (c (nI i).toNatClampNeg - 1) = upd c i (nI q) := by
          rw [hci, hq, nI_pred, nI_clamp (by omega)]
        have e2 : 6 * nI i + upd c i (nI q) (nI i).toNatClampNeg = nI (i * 6 + q) := by
          rw [nI_clamp (by omega), pk_us, show (6 : Int32) = nI 6 from rfl, pk_mul, nI_add, Nat.mul_comm]
        unfold wpY_shrink
        refine ya_rfi_t T h2 e (br_t (by decide) ⟨ca_i62 h2, br_f (by rw [hci]; exact nI_ne0 (by omega) (by omega)) ⟨ca_i62 h2, ca_i62 h2, nm_r e1 ⟨ca_i62 h2, by rw [e2]; exact vp_in_nI (by omega) (by decide), ?_, ?_⟩⟩⟩)
        · rw [e2, ca_ec L (by omega)]
        · exact ⟨K, P, M, _, F, L, _, nx, ic, dm, p, m, _, mk, tk, rfl, rfl, ca_R_shr R h3 e hq⟩
    · have e1 : K i = 2 := by have := ca_Tb T i; omega
      refine xa_rfi_n T h2 e1 (br_f (by decide) ?_)
      unfold wpY_shrink
      exact ya_rfi_n T h2 e1 (br_f (by decide) ⟨rfl, rel⟩)
  · refine xa_rfi_m hm (br_f (by decide) ?_)
    unfold wpY_shrink
    exact ya_rfi_m hm (br_f (by decide) ⟨rfl, rel⟩)
theorem ca_ff_u {U : Nat → Nat} {l a b : Nat} (ha : ca_ff U l a) (la : ∀ d, d < a → ¬ ca_ff U l d) (hb : ca_ff U l b) (lb : ∀ d, d < b → ¬ ca_ff U l d) : a = b := by
  by_cases x : a < b
  · exact (lb a x ha).elim
  · by_cases y : b < a
    · exact (la b y hb).elim
    · omega
theorem i_vc_extend {k : Nat} {u : SX} {v : SY} (I : i_Rel k u v) (hk : k + 4 ≤ 2048) (v1 : Int32) (v2 : Int32) : wpX_extend (fun r u' => wpY_extend (fun r' v' => r' = r ∧ i_Rel (k + 4) u' v') v v1 v2) u v1 v2 := by
  obtain ⟨K, P, M, C, F, L, U, nx, ic, dm, p, m, c, mk, tk, rfl, rfl, R⟩ := I
  have rel : i_Rel (k + 4) ((nI nx), (nI ic), ca_en K, ca_en P, ca_en M, ca_en C, ca_en F, ca_en L, ca_en U, dm) ((nI nx), ca_en K, p, m, c, ca_en F, ca_en L, mk, tk) := ⟨K, P, M, C, F, L, U, nx, ic, dm, p, m, c, mk, tk, rfl, rfl, R⟩
  have T := R.1
  have B := R.2.1
  have hC := R.2.2.2.1
  have A := R.2.2.2.2
  unfold wpX_extend
  rcases ca_arg K v1 with ⟨i, h1, h2, rfl, hki⟩ | hm
  · by_cases e : K i = 1
    · have h3 : 2 ≤ i := by
        by_cases z : i = 1
        · rw [z, T.1.2.1] at e; omega
        · omega
      have h6 := B.1 i
      have hc := (A i h3 hki).2.2
      have hci : c (nI i).toNatClampNeg = nI (C i) := ca_rc (by omega) hc
      refine xa_rfi_t T h2 e (br_t rfl ?_)
      rcases ca_len v2 with ⟨l, l1, l2, rfl⟩ | hw | ⟨hw1, hw2⟩
      · have a1 : ¬ nI l < 1 := nI_nlt (b := 1) l1 (by omega)
        have a2 : nI l ≤ 32 := nI_le (b := 32) l2 (by decide)
        refine br_f a1 (br_t a2 ⟨ca_i62 h2, pk_lt (C i) 6 (fun hl => ?_) (fun hl => ?_) (ca_ec C (by omega)) rfl (by omega) (by omega)⟩)
        · have c6 : ¬ c (nI i).toNatClampNeg = 6 := by
            rw [hci]
            exact fun z => by
              have := (nI_eq (b := 6) (by omega) (by decide)).mp z
              omega
          refine xa_run l1 l2 B.2.2.2.1 (fun a ha la => ?_) (fun hn => ?_)
          · have na : ¬ nI a = -11 := by
              intro z
              have h0 := nI_pos (n := a) (by have := ha.1; omega)
              rw [z] at h0
              exact h0 (by decide)
            refine br_f na (xa_add B h2 hl ha.1 ?_)
            unfold wpY_extend
            refine ya_rfi_t T h2 e (br_t (by decide) (br_f a1 (br_t a2 ⟨ca_i62 h2, br_f c6 (ya_note T B A hC (fun s hs => ya_ext h2 hc hl l1 l2 B.2.2.2.1 hs (fun b hb lb => ?_) (fun hn => (hn a ha).elim)))⟩)))
            rw [ca_ff_u hb lb ha la]
            exact ⟨rfl, K, P, M, _, _, _, _, nx, ic, dm, p, m, _, mk, s, rfl, rfl, ca_R_ext R h3 e hl l1 l2 ha⟩
          · refine br_t rfl ?_
            unfold wpY_extend
            refine ya_rfi_t T h2 e (br_t (by decide) (br_f a1 (br_t a2 ⟨ca_i62 h2, br_f c6 (ya_note T B A hC (fun s hs => ya_ext h2 hc hl l1 l2 B.2.2.2.1 hs (fun b hb lb => (hn b hb).elim) (fun _ => ⟨rfl, ?_⟩)))⟩)))
            exact ⟨K, P, M, C, F, L, U, nx, ic, dm, p, m, c, mk, s, rfl, rfl, R⟩
        · have c6 : c (nI i).toNatClampNeg = 6 := by
            rw [hci, show C i = 6 by omega]; rfl
          unfold wpY_extend
          exact ya_rfi_t T h2 e (br_t (by decide) (br_f a1 (br_t a2 ⟨ca_i62 h2, br_t c6 ⟨rfl, rel⟩⟩)))
      · refine br_t hw ?_
        unfold wpY_extend
        exact ya_rfi_t T h2 e (br_t (by decide) (br_t hw ⟨rfl, rel⟩))
      · refine br_f hw1 (br_f hw2 ?_)
        unfold wpY_extend
        exact ya_rfi_t T h2 e (br_t (by decide) (br_f hw1 (br_f hw2 ⟨rfl, rel⟩)))
    · have e1 : K i = 2 := by have := ca_Tb T i; omega
      refine xa_rfi_n T h2 e1 (br_f (by decide) ?_)
      unfold wpY_extend
      exact ya_rfi_n T h2 e1 (br_f (by decide) ⟨rfl, rel⟩)
  · refine xa_rfi_m hm (br_f (by decide) ?_)
    unfold wpY_extend
    exact ya_rfi_m hm (br_f (by decide) ⟨rfl, rel⟩)
theorem i_vc_remove {k : Nat} {u : SX} {v : SY} (I : i_Rel k u v) (hk : k + 4 ≤ 2048) (v1 : Int32) : wpX_remove (fun r u' => wpY_remove (fun r' v' => r' = r ∧ i_Rel (k + 4) u' v') v v1) u v1 := by
  obtain ⟨K, P, M, C, F, L, U, nx, ic, dm, p, m, c, mk, tk, rfl, rfl, R⟩ := I
  have rel : i_Rel (k + 4) ((nI nx), (nI ic), ca_en K, ca_en P, ca_en M, ca_en C, ca_en F, ca_en L, ca_en U, dm) ((nI nx), ca_en K, p, m, c, ca_en F, ca_en L, mk, tk) := ⟨K, P, M, C, F, L, U, nx, ic, dm, p, m, c, mk, tk, rfl, rfl, R⟩
  have T := R.1
  have B := R.2.1
  have A := R.2.2.2.2
  unfold wpX_remove
  rcases ca_arg K v1 with ⟨i, h1, h2, rfl, hki⟩ | hm
  · by_cases e : i = 1
    · subst e
      refine xa_rnr_r T (br_f (by decide) ?_)
      unfold wpY_remove
      exact ya_rit_r T (br_f (by decide) ⟨rfl, rel⟩)
    · have h3 : 2 ≤ i := by omega
      have hcl : ca_cn (ca_nc K P i) 62 ≤ 62 := ca_cn_le 62
      refine xa_rnr_t T h3 h2 hki (br_t rfl (xa_count T h2 (pk_le (ca_cn (ca_nc K P i) 62) 0 (fun hz => ?_) (fun hz => ?_) rfl rfl (by omega) (by omega))))
      · refine xa_discard B h2 (fun V hV => ?_)
        have hz0 : ca_cn (ca_nc K P i) 62 = 0 := by omega
        obtain ⟨g1, g2⟩ := ca_R_rm R h3 hki hz0 hV
        have ei : nI ic - 1 = nI (ic - 1) := pk_sub (b := 1) g1
        have ek : upd (ca_en K) (nI i).toNatClampNeg 0 = ca_en (ca_up K i 0) := by
          rw [nI_clamp (by omega)]; exact ca_upi K i 0 _ rfl
        unfold wpY_remove
        refine ya_rit_t T h3 h2 hki (br_t (by decide) ⟨ca_i62 h2, ?_⟩)
        rw [ei]
        refine br_c (fun z => ?_) (fun z => ⟨ca_i62 h2, nm_r ek ⟨rfl, _, _, _, _, _, _, _, _, _, _, _, _, _, _, _, rfl, rfl, g2⟩⟩)
        have hk2 : K i = 2 := by
          rw [ca_ec K (by omega)] at z
          exact (nI_eq (b := 2) (by have := ca_Tb T i; omega) (by decide)).mp z
        unfold wpY_entries
        refine ya_rfo_t T h2 hk2 (br_t (by decide) (ya_ents T A h2 ?_))
        rw [hz0]
        exact br_t (by decide) ⟨ca_i62 h2, nm_r ek ⟨rfl, _, _, _, _, _, _, _, _, _, _, _, _, _, _, _, rfl, rfl, g2⟩⟩
      · unfold wpY_remove
        refine ya_rit_t T h3 h2 hki (br_t (by decide) ⟨ca_i62 h2, ?_⟩)
        have hk2 : K i = 2 := by
          by_cases z : K i = 2
          · exact z
          · have := ca_nc_1 T z; omega
        refine br_t (by rw [ca_ec K (by omega), hk2]; rfl) ?_
        unfold wpY_entries
        exact ya_rfo_t T h2 hk2 (br_t (by decide) (ya_ents T A h2 (br_f (nI_nle (by omega) (by omega)) ⟨rfl, rel⟩)))
  · refine xa_rnr_m hm (br_f (by decide) ?_)
    unfold wpY_remove
    exact ya_rit_m hm (br_f (by decide) ⟨rfl, rel⟩)
theorem i_vc_removeAll {k : Nat} {u : SX} {v : SY} (I : i_Rel k u v) (hk : k + 4 ≤ 2048) (v1 : Int32) : wpX_removeAll (fun r u' => wpY_removeAll (fun r' v' => r' = r ∧ i_Rel (k + 4) u' v') v v1) u v1 := by
  obtain ⟨K, P, M, C, F, L, U, nx, ic, dm, p, m, c, mk, tk, rfl, rfl, R⟩ := I
  have rel : i_Rel (k + 4) ((nI nx), (nI ic), ca_en K, ca_en P, ca_en M, ca_en C, ca_en F, ca_en L, ca_en U, dm) ((nI nx), ca_en K, p, m, c, ca_en F, ca_en L, mk, tk) := ⟨K, P, M, C, F, L, U, nx, ic, dm, p, m, c, mk, tk, rfl, rfl, R⟩
  have T := R.1
  have B := R.2.1
  have A := R.2.2.2.2
  unfold wpX_removeAll
  rcases ca_arg K v1 with ⟨i, h1, h2, rfl, hki⟩ | hm
  · by_cases e : i = 1
    · subst e
      refine xa_rnr_r T (br_f (by decide) ?_)
      unfold wpY_removeAll
      exact ya_rit_r T (br_f (by decide) ⟨rfl, rel⟩)
    · have h3 : 2 ≤ i := by omega
      refine xa_rnr_t T h3 h2 hki (br_t rfl (xa_mark T h3 h2 (fun s hs => xa_discM B (D := ca_dm K P i) R.2.2.1.1 (fun j hj => ?_) hs (fun V jd hV hj => ?_))))
      · have := (ca_dm_t j).mp hj
        exact ⟨this.1, this.2.1, this.2.2.1⟩
      · unfold wpY_removeAll
        refine ya_rit_t T h3 h2 hki (br_t (by decide) (ya_all T A h2 (fun t => ⟨rfl, ?_⟩)))
        exact ⟨_, _, _, _, _, _, _, _, _, _, _, _, _, _, _, rfl, rfl, ca_R_all R h3 ca_dm_t hV hj⟩
  · refine xa_rnr_m hm (br_f (by decide) ?_)
    unfold wpY_removeAll
    exact ya_rit_m hm (br_f (by decide) ⟨rfl, rel⟩)
