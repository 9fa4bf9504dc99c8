theorem i_vc_move {k : Nat} {u : SX} {v : SY} (I : i_Rel k u v) (hk : k + 4 ≤ 2048) (v1 : Int32) (v2 : Int32) (v3 : Int32) : wpX_move (fun r u' => wpY_move (fun r' v' => r' = r ∧ i_Rel (k + 4) u' v') v v1 v2 v3) u v1 v2 v3 := by
  obtain ⟨K, P, M, C, F, L, U, nx, ic, dm, p, m, c, mk, tk, rfl, rfl, R⟩ := I
  have rel : i_Rel (k + 4) ((nI nx), (nI ic), ca_en K, ca_en P, ca_en M, ca_en C, ca_en F, ca_en L, ca_en U, dm) ((nI nx), ca_en K, p, m, c, ca_en F, ca_en L, mk, tk) := ⟨K, P, M, C, F, L, U, nx, ic, dm, p, m, c, mk, tk, rfl, rfl, R⟩
  have T := R.1
  have A := R.2.2.2.2
  unfold wpX_move
  rcases ca_arg K v1 with ⟨i, h1, h2, rfl, hki⟩ | hm
  · by_cases e : i = 1
    · subst e
      refine xa_rnr_r T (br_f (by decide) ?_)
      unfold wpY_move
      exact ya_rit_r T (br_f (by decide) ⟨rfl, rel⟩)
    · have h3 : 2 ≤ i := by omega
      refine xa_rnr_t T h3 h2 hki (br_t rfl ?_)
      rcases ca_arg K v2 with ⟨f, f1, f2, rfl, hkf⟩ | hmf
      · by_cases ef : K f = 2
        · rcases ca_nam v3 with ⟨n, hn, rfl⟩ | hw
          · refine xa_rpl_t T f2 ef hn (br_t rfl (xa_within T hkf h3 h2 (fun w => br_f ca_n10 ?_) (fun w => br_t rfl (xa_named T f2 hn (fun r hr => ?_)))))
            · unfold wpY_move
              refine ya_rit_t T h3 h2 hki (br_t (by decide) (ya_rfo_t T f2 ef (br_t (by decide) (ya_bad_f hn (br_t rfl (ya_within T A hkf h2 (fun w2 => br_f ca_n10 ⟨rfl, rel⟩) (fun w2 => ?_)))))))
              rw [w] at w2
              exact absurd w2 (by decide)
            · have eu : ∀ (g : Nat → Nat) (x : Nat), upd (ca_en g) (nI i).toNatClampNeg (nI x) = ca_en (ca_up g i x) := by
                intro g x
                rw [nI_clamp (by omega), ca_upe]
              have er : ∀ (g : Nat → Int32) (x : Int32), upd g (nI i).toNatClampNeg x = upd g i x := by
                intro g x
                rw [nI_clamp (by omega)]
              have ydo : ∀ (Q : Int32 → SY → Prop), (∀ r, ca_lk K P M f n r → (((nI r ≤ 0 → wY_move_74 Q (nI i) (nI f) (nI n) (nI nx) (ca_en K) p m c (ca_en F) (ca_en L) mk tk) ∧ (¬ nI r ≤ 0 → ((nI r = nI i → wY_move_74 Q (nI i) (nI f) (nI n) (nI nx) (ca_en K) p m c (ca_en F) (ca_en L) mk tk) ∧ (¬ nI r = nI i → Q (-4) ((nI nx), ca_en K, p, m, c, ca_en F, ca_en L, mk, tk))))))) → wpY_move Q ((nI nx), ca_en K, p, m, c, ca_en F, ca_en L, mk, tk) (nI i) (nI f) (nI n) := by
                intro Q hQ
                unfold wpY_move
                refine ya_rit_t T h3 h2 hki (br_t (by decide) (ya_rfo_t T f2 ef (br_t (by decide) (ya_bad_f hn (br_t rfl (ya_within T A hkf h2 (fun w2 => ?_) (fun w2 => br_t rfl (ya_look T A f2 hn hQ))))))))
                rw [w] at w2
                exact absurd w2 (by decide)
              have good : (∀ j, ca_ch K P f j → j ≠ i → M j ≠ n) → i_Rel (k + 4) ((nI nx), (nI ic), ca_en K, ca_en (ca_up P i f), ca_en (ca_up M i n), ca_en C, ca_en F, ca_en L, ca_en U, dm) ((nI nx), ca_en K, (upd p i (nI f)), (upd m i (nI n)), c, ca_en F, ca_en L, mk, tk) := by
                intro hu
                exact ⟨_, _, _, _, _, _, _, _, _, _, _, _, _, _, _, rfl, rfl, ca_R_move R h3 hki ef hn w hu⟩
              rcases ca_lk_b hr with e0 | e0
              · rw [e0] at hr
                have hu : ∀ j, ca_ch K P f j → j ≠ i → M j ≠ n := by
                  rcases hr with hr | hr
                  · exact fun j hj _ => hr.2 j hj
                  · have := hr.1.1; omega
                rw [e0]
                refine br_t rfl ⟨ca_i62 h2, nm_r (eu P f) ⟨ca_i62 h2, nm_r (eu M n) ?_⟩⟩
                refine ydo _ (fun s hs => ?_)
                rw [ca_lk_u T hs hr]
                exact br_t (by decide) ⟨ca_i62 h2, nm_r (er p _) ⟨ca_i62 h2, nm_r (er m _) ⟨rfl, good hu⟩⟩⟩
              · have hc : ca_ch K P f r ∧ M r = n := by
                  rcases hr with hr | hr
                  · omega
                  · exact hr
                by_cases ei : r = i
                · have hu : ∀ j, ca_ch K P f j → j ≠ i → M j ≠ n := by
                    intro j hj hji z
                    have := ca_lk_u T (Or.inr ⟨hj, z⟩) hr
                    omega
                  refine br_f (nI_ne0 (by omega) (by omega)) (br_t (by rw [ei]) ⟨ca_i62 h2, nm_r (eu P f) ⟨ca_i62 h2, nm_r (eu M n) ?_⟩⟩)
                  refine ydo _ (fun s hs => ?_)
                  rw [ca_lk_u T hs hr]
                  exact br_f (nI_nle (by omega) (by omega)) (br_t (by rw [ei]) ⟨ca_i62 h2, nm_r (er p _) ⟨ca_i62 h2, nm_r (er m _) ⟨rfl, good hu⟩⟩⟩)
                · have ni : ¬ nI r = nI i := fun z => ei ((nI_eq (by omega) (by omega)).mp z)
                  refine br_f (nI_ne0 (by omega) (by omega)) (br_f ni ?_)
                  refine ydo _ (fun s hs => ?_)
                  rw [ca_lk_u T hs hr]
                  exact br_f (nI_nle (by omega) (by omega)) (br_f ni ⟨rfl, rel⟩)
          · refine xa_rpl_b T f2 ef hw (br_f (by decide) ?_)
            unfold wpY_move
            exact ya_rit_t T h3 h2 hki (br_t (by decide) (ya_rfo_t T f2 ef (br_t (by decide) (ya_bad_t hw (br_f ca_n10 ⟨rfl, rel⟩)))))
        · have e1 : K f = 1 := by have := ca_Tb T f; omega
          refine xa_rpl_n T f2 e1 (br_f (by decide) ?_)
          unfold wpY_move
          exact ya_rit_t T h3 h2 hki (br_t (by decide) (ya_rfo_n T f2 e1 (br_f (by decide) ⟨rfl, rel⟩)))
      · refine xa_rpl_m hmf (br_f (by decide) ?_)
        unfold wpY_move
        exact ya_rit_t T h3 h2 hki (br_t (by decide) (ya_rfo_m hmf (br_f (by decide) ⟨rfl, rel⟩)))
  · refine xa_rnr_m hm (br_f (by decide) ?_)
    unfold wpY_move
    exact ya_rit_m hm (br_f (by decide) ⟨rfl, rel⟩)
theorem i_vc_make {k : Nat} {u : SX} {v : SY} (I : i_Rel k u v) (hk : k + 4 ≤ 2048) (v1 : Int32) (v2 : Int32) (v3 : Int32) : wpX_make (fun r u' => wpY_make (fun r' v' => r' = r ∧ i_Rel (k + 4) u' v') v v1 v2 (lw_bz v3)) u v1 v2 (lw_bz v3) := by
  obtain ⟨K, P, M, C, F, L, U, nx, ic, dm, p, m, c, mk, tk, rfl, rfl, R⟩ := I
  have rel : i_Rel (k + 4) ((nI nx), (nI ic), ca_en K, ca_en P, ca_en M, ca_en C, ca_en F, ca_en L, ca_en U, dm) ((nI nx), ca_en K, p, m, c, ca_en F, ca_en L, mk, tk) := ⟨K, P, M, C, F, L, U, nx, ic, dm, p, m, c, mk, tk, rfl, rfl, R⟩
  have T := R.1
  have A := R.2.2.2.2
  have hic := R.2.2.1
  have tn := T.2.1
  generalize lw_bz v3 = z3
  unfold wpX_make
  rcases ca_arg K v1 with ⟨f, f1, f2, rfl, hkf⟩ | hm
  · by_cases ef : K f = 2
    · rcases ca_nam v2 with ⟨n, hn, rfl⟩ | hw
      · refine xa_rpl_t T f2 ef hn (br_t rfl (xa_named T f2 hn (fun r hr => ?_)))
        have ydo : ∀ (Q : Int32 → SY → Prop), ((r = 0 → ((nI ic = 24 → Q (-5) ((nI nx), ca_en K, p, m, c, ca_en F, ca_en L, mk, tk)) ∧ (¬ nI ic = 24 → ((nI nx = 62 → Q (-5) ((nI nx), ca_en K, p, m, c, ca_en F, ca_en L, mk, tk)) ∧ (¬ nI nx = 62 → ((z3 = 0 → wY_make_75 Q (nI f) (nI n) 1 (nI nx) (nI nx) (ca_en K) p m c (ca_en F) (ca_en L) mk tk) ∧ (¬ z3 = 0 → wY_make_75 Q (nI f) (nI n) 2 (nI nx) (nI nx) (ca_en K) p m c (ca_en F) (ca_en L) mk tk))))))) ∧ (r ≠ 0 → Q (-4) ((nI nx), ca_en K, p, m, c, ca_en F, ca_en L, mk, tk))) → wpY_make Q ((nI nx), ca_en K, p, m, c, ca_en F, ca_en L, mk, tk) (nI f) (nI n) z3 := by
          intro Q hQ
          unfold wpY_make
          refine ya_rfo_t T f2 ef (br_t (by decide) (ya_bad_f hn (br_t rfl (ya_look T A f2 hn (fun s hs => ?_)))))
          rw [ca_lk_u T hs hr]
          have hb := ca_lk_b hr
          refine pk_le r 0 (fun h0 => ya_items T ?_) (fun h0 => hQ.2 (by omega)) rfl rfl (by omega) (by omega)
          rw [← hic.1]
          exact hQ.1 (by omega)
        rcases ca_lk_b hr with e0 | e0
        · have hu : ∀ j, ca_ch K P f j → M j ≠ n := by
            rcases hr with hr | hr
            · exact hr.2
            · have := hr.1.1; omega
          refine br_t (by rw [e0]; rfl) ?_
          refine pk_le 24 ic (fun hi => ?_) (fun hi => ?_) rfl rfl (by omega) (by omega)
          · have e24 : ic = 24 := by omega
            exact ydo _ ⟨fun _ => br_t (by rw [e24]; rfl) ⟨rfl, rel⟩, fun z => (z e0).elim⟩
          · have n24 : ¬ nI ic = 24 := fun z => by
              have := (nI_eq (b := 24) (by omega) (by decide)).mp z
              omega
            refine pk_le nx 61 (fun hx => ?_) (fun hx => ?_) rfl rfl (by omega) (by omega)
            · have n62 : ¬ nI nx = 62 := fun z => by
                have := (nI_eq (b := 62) (by omega) (by decide)).mp z
                omega
              have hv : vp_in (nI nx) 62 := ca_i62 (by omega)
              have eu : ∀ (g : Nat → Nat) (x : Nat), upd (ca_en g) (nI nx).toNatClampNeg (nI x) = ca_en (ca_up g nx x) := by
                intro g x
                rw [nI_clamp (by omega), ca_upe]
              have er : ∀ (g : Nat → Int32) (x : Int32), upd g (nI nx).toNatClampNeg x = upd g nx x := by
                intro g x
                rw [nI_clamp (by omega)]
              have good : ∀ kd, kd = 1 ∨ kd = 2 → i_Rel (k + 4) ((nI (nx + 1)), (nI (ic + 1)), ca_en (ca_up K nx kd), ca_en (ca_up P nx f), ca_en (ca_up M nx n), ca_en C, ca_en F, ca_en L, ca_en U, dm) ((nI (nx + 1)), ca_en (ca_up K nx kd), (upd p nx (nI f)), (upd m nx (nI n)), (upd c nx (nI 0)), ca_en F, ca_en L, mk, tk) := by
                intro kd hkd
                exact ⟨_, _, _, _, _, _, _, _, _, _, _, _, _, _, _, rfl, rfl, ca_R_make R ef hn hx (by omega) hkd hu⟩
              refine nm_r (nI_1 nx) (nm_r (nI_1 ic) ?_)
              by_cases h3 : z3 = 0
              · refine br_t h3 ⟨hv, nm_r (eu K 1) ⟨hv, nm_r (eu P f) ⟨hv, nm_r (eu M n) ?_⟩⟩⟩
                refine ydo _ ⟨fun _ => br_f n24 (br_f n62 (br_t h3 ⟨hv, nm_r (eu K 1) ⟨hv, nm_r (er p _) ⟨hv, nm_r (er m _) ⟨hv, nm_r (er c _) (nm_r (nI_1 nx) ⟨?_, good 1 (Or.inl rfl)⟩)⟩⟩⟩⟩)), fun z => (z e0).elim⟩
                exact nI_pred nx
              · refine br_f h3 ⟨hv, nm_r (eu K 2) ⟨hv, nm_r (eu P f) ⟨hv, nm_r (eu M n) ?_⟩⟩⟩
                refine ydo _ ⟨fun _ => br_f n24 (br_f n62 (br_f h3 ⟨hv, nm_r (eu K 2) ⟨hv, nm_r (er p _) ⟨hv, nm_r (er m _) ⟨hv, nm_r (er c _) (nm_r (nI_1 nx) ⟨?_, good 2 (Or.inr rfl)⟩)⟩⟩⟩⟩)), fun z => (z e0).elim⟩
                exact nI_pred nx
            · have e62 : nx = 62 := by omega
              exact ydo _ ⟨fun _ => br_f n24 (br_t (by rw [e62]; rfl) ⟨rfl, rel⟩), fun z => (z e0).elim⟩
        · refine br_f (nI_ne0 (by omega) (by omega)) ?_
          exact ydo _ ⟨fun z => by omega, fun _ => ⟨rfl, rel⟩⟩
      · refine xa_rpl_b T f2 ef hw (br_f (by decide) ?_)
        unfold wpY_make
        exact ya_rfo_t T f2 ef (br_t (by decide) (ya_bad_t hw (br_f ca_n10 ⟨rfl, rel⟩)))
    · have e1 : K f = 1 := by have := ca_Tb T f; omega
      refine xa_rpl_n T f2 e1 (br_f (by decide) ?_)
      unfold wpY_make
      exact ya_rfo_n T f2 e1 (br_f (by decide) ⟨rfl, rel⟩)
  · refine xa_rpl_m hm (br_f (by decide) ?_)
    unfold wpY_make
    exact ya_rfo_m hm (br_f (by decide) ⟨rfl, rel⟩)
