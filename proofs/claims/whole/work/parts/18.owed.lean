/-! the questions: both sides meet in the answer -/
theorem sq_rel {k n : Nat} {ow kd vr vl : Nat → Nat} {f_explored f_loadCount f_orderCount f_lateCount f_strictCount : Int32} {a_lateSet a_strictSet a_place a_earlier : Nat → Int32} {yf_storeCount yf_loadCount yf_listed yf_strictListed : Int32} {ya_stores ya_loads ya_found ya_place ya_after ya_list ya_strictList : Nat → Int32} (hW : sq_W n ow kd vr vl) (hE : sq_XE n ow kd vr vl f_loadCount f_orderCount f_lateCount f_strictCount a_lateSet a_strictSet a_place) : i_Rel k ((nI n), f_explored, f_loadCount, f_orderCount, f_lateCount, f_strictCount, (sq_nA ow), (sq_nA kd), (sq_nA vr), (sq_nA vl), a_lateSet, a_strictSet, a_place, a_earlier) ((nI n), 0, yf_storeCount, yf_loadCount, yf_listed, yf_strictListed, (sq_nA kd), (sq_nA ow), (sq_nA vr), (sq_nA vl), ya_stores, ya_loads, ya_found, ya_place, ya_after, ya_list, ya_strictList) :=
  ⟨rfl, n, ow, kd, vr, vl, hW, ⟨_, _, _, _, _, _, _, _, _, rfl, Or.inr hE⟩, ⟨_, _, _, _, _, _, _, _, _, _, _, rfl⟩⟩
theorem sq_b31 : ∀ b, b < 5 → bt 31 b = true := by decide +kernel
theorem sq_lat {n : Nat} {ow kd vr vl : Nat → Nat} (hW : sq_W n ow kd vr vl) {la lb : Nat → Nat} {L M : Nat} (h : sq_SS la L (sq_PX n ow kd vr vl (bt 0))) (h' : sq_SS lb M (sq_PY n ow kd vr vl false (bt 0))) : L = M ∧ ∀ i, i < L → la i = lb i :=
  sq_SS_uniq (sq_SS_c h (sq_bridge hW (Or.inr ⟨rfl, fun _ _ => rfl⟩))) h'
theorem sq_str {n : Nat} {ow kd vr vl : Nat → Nat} (hW : sq_W n ow kd vr vl) {la lb : Nat → Nat} {L M : Nat} (h : sq_SS la L (sq_PX n ow kd vr vl (bt 31))) (h' : sq_SS lb M (sq_PY n ow kd vr vl true (bt 0))) : L = M ∧ ∀ i, i < L → la i = lb i :=
  sq_SS_uniq (sq_SS_c h (sq_bridge hW (Or.inl ⟨rfl, sq_b31⟩))) h'
theorem sq_PY_lt {n : Nat} {ow kd vr vl : Nat → Nat} {S : Bool} {F : Nat → Bool} (hl : ∀ i, vl i < 4) {o : Nat} (h : sq_PY n ow kd vr vl S F o) : o < 262144 := by
  obtain ⟨P, Fo, f, _, _, _, _, hd, e⟩ := h
  rw [e]
  exact sq_dg_4 hl hd
theorem i_vc_outcomes {k : Nat} {u : SX} {v : SY} (I : i_Rel k u v) (hk : k + 5 ≤ 2560) : wpX_outcomes (fun r u' => wpY_outcomes (fun r' v' => r' = r ∧ i_Rel (k + 5) u' v') v) u := by
  obtain ⟨_, n, ow, kd, vr, vl, hW, ⟨f_explored, f_loadCount, f_orderCount, f_lateCount, f_strictCount, a_lateSet, a_strictSet, a_place, a_earlier, rfl, hX⟩, ⟨y1, y2, y3, y4, y5, y6, y7, y8, y9, y10, y11, rfl⟩⟩ := I
  unfold wpX_outcomes
  refine sq_xExp hW hX (fun e x1 x2 x3 x4 x5 x6 x7 x8 hE => ?_)
  obtain ⟨rfl, rfl, hp, L, S, la, ss, rfl, rfl, rfl, rfl, hL, hS, hLS, hSS⟩ := id hE
  refine sq_yGo0 (yf_storeCount := y1) (yf_loadCount := y2) hW (fun lb M st ld fo pl A hM hMS => ⟨?_, sq_rel hW hE⟩)
  rw [(sq_lat hW hLS hMS).1]
theorem i_vc_strictOutcomes {k : Nat} {u : SX} {v : SY} (I : i_Rel k u v) (hk : k + 5 ≤ 2560) : wpX_strictOutcomes (fun r u' => wpY_strictOutcomes (fun r' v' => r' = r ∧ i_Rel (k + 5) u' v') v) u := by
  obtain ⟨_, n, ow, kd, vr, vl, hW, ⟨f_explored, f_loadCount, f_orderCount, f_lateCount, f_strictCount, a_lateSet, a_strictSet, a_place, a_earlier, rfl, hX⟩, ⟨y1, y2, y3, y4, y5, y6, y7, y8, y9, y10, y11, rfl⟩⟩ := I
  unfold wpX_strictOutcomes
  refine sq_xExp hW hX (fun e x1 x2 x3 x4 x5 x6 x7 x8 hE => ?_)
  obtain ⟨rfl, rfl, hp, L, S, la, ss, rfl, rfl, rfl, rfl, hL, hS, hLS, hSS⟩ := id hE
  refine sq_yGo1 (yf_storeCount := y1) (yf_loadCount := y2) hW (fun lb M st ld fo pl A hM hMS => ⟨?_, sq_rel hW hE⟩)
  rw [(sq_str hW hSS hMS).1]
theorem i_vc_outcome {k : Nat} {u : SX} {v : SY} (I : i_Rel k u v) (hk : k + 5 ≤ 2560) (v1 : Int32) : wpX_outcome (fun r u' => wpY_outcome (fun r' v' => r' = r ∧ i_Rel (k + 5) u' v') v v1) u v1 := by
  obtain ⟨_, n, ow, kd, vr, vl, hW, ⟨f_explored, f_loadCount, f_orderCount, f_lateCount, f_strictCount, a_lateSet, a_strictSet, a_place, a_earlier, rfl, hX⟩, ⟨y1, y2, y3, y4, y5, y6, y7, y8, y9, y10, y11, rfl⟩⟩ := I
  unfold wpX_outcome
  refine sq_xExp hW hX (fun e x1 x2 x3 x4 x5 x6 x7 x8 hE => ?_)
  obtain ⟨rfl, rfl, hp, L, S, la, ss, rfl, rfl, rfl, rfl, hL, hS, hLS, hSS⟩ := id hE
  rcases pk_ix v1 (n := L) (by omega) with a | a | ⟨j, hj, rfl⟩
  · refine br_t a ?_
    exact sq_yGo0 (yf_storeCount := y1) (yf_loadCount := y2) hW (fun lb M st ld fo pl A hM hMS => br_t a ⟨rfl, sq_rel hW hE⟩)
  · have a0 : ¬ v1 < 0 := fun z => by
      have := nI_pos (n := L) (by omega)
      exact this (Int32.lt_of_le_of_lt a z)
    refine br_f a0 (br_t a ?_)
    refine sq_yGo0 (yf_storeCount := y1) (yf_loadCount := y2) hW (fun lb M st ld fo pl A hM hMS => ?_)
    have e := sq_lat hW hLS hMS
    rw [e.1] at a
    exact br_f a0 (br_t a ⟨rfl, sq_rel hW hE⟩)
  · refine br_f (nI_pos (by omega)) (br_f (nI_ge hj (by omega)) ⟨pk_in j 720 (by omega), ?_⟩)
    refine sq_yGo0 (yf_storeCount := y1) (yf_loadCount := y2) hW (fun lb M st ld fo pl A hM hMS => ?_)
    have e := sq_lat hW hLS hMS
    refine br_f (nI_pos (by omega)) (br_f (nI_ge (by omega) (by omega)) ⟨pk_in j 720 (by omega), ?_, sq_rel hW hE⟩)
    rw [sq_at la (by omega), sq_at lb (by omega), e.2 j hj]
theorem i_vc_possible {k : Nat} {u : SX} {v : SY} (I : i_Rel k u v) (hk : k + 5 ≤ 2560) (v1 : Int32) : wpX_possible (fun r u' => wpY_possible (fun r' v' => r' = r ∧ i_Rel (k + 5) u' v') v v1) u v1 := by
  obtain ⟨_, n, ow, kd, vr, vl, hW, ⟨f_explored, f_loadCount, f_orderCount, f_lateCount, f_strictCount, a_lateSet, a_strictSet, a_place, a_earlier, rfl, hX⟩, ⟨y1, y2, y3, y4, y5, y6, y7, y8, y9, y10, y11, rfl⟩⟩ := I
  unfold wpX_possible
  refine sq_xExp hW hX (fun e x1 x2 x3 x4 x5 x6 x7 x8 hE => ?_)
  obtain ⟨rfl, rfl, hp, L, S, la, ss, rfl, rfl, rfl, rfl, hL, hS, hLS, hSS⟩ := id hE
  have hl4 := hW.2.2.2.2.1
  have hla : ∀ i, i < L → la i < 262144 := fun i hi => sq_PX_lt hl4 ((hLS.2 _).mpr ⟨i, hi, rfl⟩)
  refine sq_xHas_lateSet hL hla hLS.1 (fun z => ⟨rfl, ?_⟩) (fun z => ⟨rfl, ?_⟩)
  · refine sq_yGo0 (yf_storeCount := y1) (yf_loadCount := y2) hW (fun lb M st ld fo pl A hM hMS => ?_)
    have e := sq_lat hW hLS hMS
    refine sq_yHas hM (fun w => ⟨rfl, sq_rel hW hE⟩) (fun w => absurd ?_ w)
    obtain ⟨i, hi, ei⟩ := z
    exact ⟨i, by omega, by rw [← e.2 i hi]; exact ei⟩
  · refine sq_yGo0 (yf_storeCount := y1) (yf_loadCount := y2) hW (fun lb M st ld fo pl A hM hMS => ?_)
    have e := sq_lat hW hLS hMS
    refine sq_yHas hM (fun w => absurd ?_ z) (fun w => ⟨rfl, sq_rel hW hE⟩)
    obtain ⟨i, hi, ei⟩ := w
    exact ⟨i, by omega, by rw [e.2 i (by omega)]; exact ei⟩
theorem i_vc_strictlyPossible {k : Nat} {u : SX} {v : SY} (I : i_Rel k u v) (hk : k + 5 ≤ 2560) (v1 : Int32) : wpX_strictlyPossible (fun r u' => wpY_strictlyPossible (fun r' v' => r' = r ∧ i_Rel (k + 5) u' v') v v1) u v1 := by
  obtain ⟨_, n, ow, kd, vr, vl, hW, ⟨f_explored, f_loadCount, f_orderCount, f_lateCount, f_strictCount, a_lateSet, a_strictSet, a_place, a_earlier, rfl, hX⟩, ⟨y1, y2, y3, y4, y5, y6, y7, y8, y9, y10, y11, rfl⟩⟩ := I
  unfold wpX_strictlyPossible
  refine sq_xExp hW hX (fun e x1 x2 x3 x4 x5 x6 x7 x8 hE => ?_)
  obtain ⟨rfl, rfl, hp, L, S, la, ss, rfl, rfl, rfl, rfl, hL, hS, hLS, hSS⟩ := id hE
  have hl4 := hW.2.2.2.2.1
  have hss : ∀ i, i < S → ss i < 262144 := fun i hi => sq_PX_lt hl4 ((hSS.2 _).mpr ⟨i, hi, rfl⟩)
  refine sq_xHas_strictSet hS hss hSS.1 (fun z => ⟨rfl, ?_⟩) (fun z => ⟨rfl, ?_⟩)
  · refine sq_yGo1 (yf_storeCount := y1) (yf_loadCount := y2) hW (fun lb M st ld fo pl A hM hMS => ?_)
    have e := sq_str hW hSS hMS
    refine sq_yIsS hM (fun w => ⟨rfl, rfl, sq_rel hW hE⟩) (fun w => absurd ?_ w)
    obtain ⟨i, hi, ei⟩ := z
    exact ⟨i, by omega, by rw [← e.2 i hi]; exact ei⟩
  · refine sq_yGo1 (yf_storeCount := y1) (yf_loadCount := y2) hW (fun lb M st ld fo pl A hM hMS => ?_)
    have e := sq_str hW hSS hMS
    refine sq_yIsS hM (fun w => absurd ?_ z) (fun w => ⟨rfl, rfl, sq_rel hW hE⟩)
    obtain ⟨i, hi, ei⟩ := w
    exact ⟨i, by omega, by rw [e.2 i (by omega)]; exact ei⟩
theorem i_vc_surprise {k : Nat} {u : SX} {v : SY} (I : i_Rel k u v) (hk : k + 5 ≤ 2560) : wpX_surprise (fun r u' => wpY_surprise (fun r' v' => r' = r ∧ i_Rel (k + 5) u' v') v) u := by
  obtain ⟨_, n, ow, kd, vr, vl, hW, ⟨f_explored, f_loadCount, f_orderCount, f_lateCount, f_strictCount, a_lateSet, a_strictSet, a_place, a_earlier, rfl, hX⟩, ⟨y1, y2, y3, y4, y5, y6, y7, y8, y9, y10, y11, rfl⟩⟩ := I
  unfold wpX_surprise
  refine sq_xExp hW hX (fun e x1 x2 x3 x4 x5 x6 x7 x8 hE => ?_)
  obtain ⟨rfl, rfl, hp, L, S, la, ss, rfl, rfl, rfl, rfl, hL, hS, hLS, hSS⟩ := id hE
  have hl4 := hW.2.2.2.2.1
  have hla : ∀ i, i < L → la i < 262144 := fun i hi => sq_PX_lt hl4 ((hLS.2 _).mpr ⟨i, hi, rfl⟩)
  refine sq_xSur hL hS hla (fun o ho => sq_PX_lt hl4 ho) hSS (fun r hr => ?_)
  refine sq_yGo1 (yf_storeCount := y1) (yf_loadCount := y2) hW (fun sb T st ld fo pl A hT hTS => ?_)
  refine sq_yFst (yf_storeCount := (nI (sq_cn (sq_ls kd) n))) (yf_loadCount := (nI (sq_cn (sq_ll kd) n))) hW hT (fun o ho => sq_PY_lt hl4 ho) hTS (fun o ho => sq_PY_lt hl4 ho) (fun lb M st' ld' fo' pl' A' r' hM hMS hr' => ⟨?_, sq_rel hW hE⟩)
  have e := sq_lat hW hLS hMS
  rw [← e.1] at hr'
  exact sq_sup_uniq e.2 (sq_bridge hW (Or.inl ⟨rfl, sq_b31⟩)) hr hr'
theorem i_vc_finds {k : Nat} {u : SX} {v : SY} (I : i_Rel k u v) (hk : k + 5 ≤ 2560) (v1 : Int32) : wpX_finds (fun r u' => wpY_finds (fun r' v' => r' = r ∧ i_Rel (k + 5) u' v') v v1) u v1 := by
  obtain ⟨_, n, ow, kd, vr, vl, hW, ⟨f_explored, f_loadCount, f_orderCount, f_lateCount, f_strictCount, a_lateSet, a_strictSet, a_place, a_earlier, rfl, hX⟩, ⟨y1, y2, y3, y4, y5, y6, y7, y8, y9, y10, y11, rfl⟩⟩ := I
  unfold wpX_finds
  refine sq_xExp hW hX (fun e x1 x2 x3 x4 x5 x6 x7 x8 hE => ?_)
  obtain ⟨rfl, rfl, hp, L, S, la, ss, rfl, rfl, rfl, rfl, hL, hS, hLS, hSS⟩ := id hE
  have hlc := sq_cn_le (sq_ll kd) n
  have hn := hW.1
  rcases pk_ix v1 (n := sq_cn (sq_ll kd) n) (by omega) with a | a | ⟨j, hj, rfl⟩
  · refine br_t a (br_t rfl ?_)
    exact sq_yGo0 (yf_storeCount := y1) (yf_loadCount := y2) hW (fun lb M st ld fo pl A hM hMS => br_t a ⟨rfl, sq_rel hW hE⟩)
  · have a0 : ¬ v1 < 0 := fun z => by
      have := nI_pos (n := sq_cn (sq_ll kd) n) (by omega)
      exact this (Int32.lt_of_le_of_lt a z)
    refine br_f a0 (br_t a (br_t rfl ?_))
    exact sq_yGo0 (yf_storeCount := y1) (yf_loadCount := y2) hW (fun lb M st ld fo pl A hM hMS => br_f a0 (br_f (Int32.not_lt.mpr a) ⟨rfl, sq_rel hW hE⟩))
  · refine br_f (nI_pos (by omega)) (br_f (nI_ge hj (by omega)) (br_f (by decide) ?_))
    refine sq_xVals hL ?_
    refine sq_yGo0 (yf_storeCount := y1) (yf_loadCount := y2) hW (fun lb M st ld fo pl A hM hMS => ?_)
    have e := sq_lat hW hLS hMS
    refine br_f (nI_pos (by omega)) (br_t (nI_lt hj (by omega)) (sq_yFds hM ⟨?_, sq_rel hW hE⟩))
    rw [← e.1]
    exact (sq_vs_ext e.2).symm
theorem i_vc_ends {k : Nat} {u : SX} {v : SY} (I : i_Rel k u v) (hk : k + 5 ≤ 2560) (v1 : Int32) : wpX_ends (fun r u' => wpY_ends (fun r' v' => r' = r ∧ i_Rel (k + 5) u' v') v v1) u v1 := by
  have I' := i_up I
  obtain ⟨_, n, ow, kd, vr, vl, hW, ⟨f_explored, f_loadCount, f_orderCount, f_lateCount, f_strictCount, a_lateSet, a_strictSet, a_place, a_earlier, rfl, hX⟩, ⟨y1, y2, y3, y4, y5, y6, y7, y8, y9, y10, y11, rfl⟩⟩ := I
  rcases sq_arg v1 (N := 3) (by decide) (by decide) with b | ⟨b0, b1, b2, b3⟩ | ⟨j, hj, rfl⟩
  · exact br_t b (br_t rfl (br_t b ⟨rfl, I'⟩))
  · exact br_f b0 (br_t b1 (br_t rfl (br_f b0 (br_f b3 ⟨rfl, I'⟩))))
  · refine br_f (nI_pos (by omega)) (br_f (nI_ge (b := 3) hj (by decide)) (br_f (by decide) ?_))
    refine sq_xExp hW hX (fun e x1 x2 x3 x4 x5 x6 x7 x8 hE => ?_)
    obtain ⟨rfl, rfl, hp, L, S, la, ss, rfl, rfl, rfl, rfl, hL, hS, hLS, hSS⟩ := id hE
    refine sq_xVals hL ?_
    refine br_f (nI_pos (by omega)) (br_t (nI_le (b := 2) (by omega) (by decide)) ?_)
    refine sq_yGo0 (yf_storeCount := y1) (yf_loadCount := y2) hW (fun lb M st ld fo pl A hM hMS => ?_)
    have e := sq_lat hW hLS hMS
    refine sq_yEnds hM ⟨?_, sq_rel hW hE⟩
    have e1 : (2 : Int32) * (6 + nI j) = 12 + 2 * nI j := by
      have h1 : (6 : Int32) + nI j = nI (6 + j) := nI_add 6 j
      have h2 : (2 : Int32) * nI (6 + j) = nI (2 * (6 + j)) := pk_mul 2 _
      have h3 : (2 : Int32) * nI j = nI (2 * j) := pk_mul 2 _
      have h4 : (12 : Int32) + nI (2 * j) = nI (12 + 2 * j) := nI_add 12 _
      rw [h1, h2, h3, h4]
      congr 1
      omega
    rw [← e.1, e1]
    exact (sq_vs_ext e.2).symm
theorem i_vc_implies {k : Nat} {u : SX} {v : SY} (I : i_Rel k u v) (hk : k + 5 ≤ 2560) (v1 : Int32) (v2 : Int32) (v3 : Int32) (v4 : Int32) : wpX_implies (fun r u' => wpY_implies (fun r' v' => r' = r ∧ i_Rel (k + 5) u' v') v v1 v2 v3 v4) u v1 v2 v3 v4 := by
  obtain ⟨_, n, ow, kd, vr, vl, hW, ⟨f_explored, f_loadCount, f_orderCount, f_lateCount, f_strictCount, a_lateSet, a_strictSet, a_place, a_earlier, rfl, hX⟩, ⟨y1, y2, y3, y4, y5, y6, y7, y8, y9, y10, y11, rfl⟩⟩ := I
  unfold wpX_implies
  refine sq_xExp hW hX (fun e x1 x2 x3 x4 x5 x6 x7 x8 hE => ?_)
  obtain ⟨rfl, rfl, hp, L, S, la, ss, rfl, rfl, rfl, rfl, hL, hS, hLS, hSS⟩ := id hE
  have hlc := sq_cn_le (sq_ll kd) n
  have hn := hW.1
  rcases pk_ix v1 (n := sq_cn (sq_ll kd) n) (by omega) with a | a | ⟨j, hj, rfl⟩
  · refine br_t a (br_t rfl ?_)
    exact sq_yGo0 (yf_storeCount := y1) (yf_loadCount := y2) hW (fun lb M st ld fo pl A hM hMS => br_t a ⟨rfl, sq_rel hW hE⟩)
  · have a0 : ¬ v1 < 0 := fun z => by
      have := nI_pos (n := sq_cn (sq_ll kd) n) (by omega)
      exact this (Int32.lt_of_le_of_lt a z)
    refine br_f a0 (br_t a (br_t rfl ?_))
    exact sq_yGo0 (yf_storeCount := y1) (yf_loadCount := y2) hW (fun lb M st ld fo pl A hM hMS => br_f a0 (br_t a ⟨rfl, sq_rel hW hE⟩))
  · have j0 : ¬ nI j < 0 := nI_pos (by omega)
    have j1 : ¬ nI (sq_cn (sq_ll kd) n) ≤ nI j := nI_ge hj (by omega)
    refine br_f j0 (br_f j1 (br_f (by decide) ?_))
    rcases pk_ix v3 (n := sq_cn (sq_ll kd) n) (by omega) with a | a | ⟨i, hi, rfl⟩
    · refine br_t a (br_t rfl ?_)
      exact sq_yGo0 (yf_storeCount := y1) (yf_loadCount := y2) hW (fun lb M st ld fo pl A hM hMS => br_f j0 (br_f j1 (br_t a ⟨rfl, sq_rel hW hE⟩)))
    · have a0 : ¬ v3 < 0 := fun z => by
        have := nI_pos (n := sq_cn (sq_ll kd) n) (by omega)
        exact this (Int32.lt_of_le_of_lt a z)
      refine br_f a0 (br_t a (br_t rfl ?_))
      exact sq_yGo0 (yf_storeCount := y1) (yf_loadCount := y2) hW (fun lb M st ld fo pl A hM hMS => br_f j0 (br_f j1 (br_f a0 (br_f (Int32.not_lt.mpr a) ⟨rfl, sq_rel hW hE⟩))))
    · have i0 : ¬ nI i < 0 := nI_pos (by omega)
      refine br_f i0 (br_f (nI_ge hi (by omega)) (br_f (by decide) ?_))
      refine sq_xImp hL (fun z => ?_) (fun z => ?_)
      · refine sq_yGo0 (yf_storeCount := y1) (yf_loadCount := y2) hW (fun lb M st ld fo pl A hM hMS => ?_)
        have e := sq_lat hW hLS hMS
        refine br_f j0 (br_f j1 (br_f i0 (br_t (nI_lt hi (by omega)) (sq_yImp hM (fun w => ⟨rfl, sq_rel hW hE⟩) (fun w => absurd ?_ w)))))
        intro l hl
        rw [← e.2 l (by omega)]
        exact z l (by omega)
      · refine sq_yGo0 (yf_storeCount := y1) (yf_loadCount := y2) hW (fun lb M st ld fo pl A hM hMS => ?_)
        have e := sq_lat hW hLS hMS
        refine br_f j0 (br_f j1 (br_f i0 (br_t (nI_lt hi (by omega)) (sq_yImp hM (fun w => absurd ?_ z) (fun w => ⟨rfl, sq_rel hW hE⟩)))))
        intro l hl
        rw [e.2 l hl]
        exact w l (by omega)
theorem i_vc_fencesNeeded {k : Nat} {u : SX} {v : SY} (I : i_Rel k u v) (hk : k + 5 ≤ 2560) : wpX_fencesNeeded (fun r u' => wpY_fencesNeeded (fun r' v' => r' = r ∧ i_Rel (k + 5) u' v') v) u := by
  obtain ⟨_, n, ow, kd, vr, vl, hW, ⟨f_explored, f_loadCount, f_orderCount, f_lateCount, f_strictCount, a_lateSet, a_strictSet, a_place, a_earlier, rfl, hX⟩, ⟨y1, y2, y3, y4, y5, y6, y7, y8, y9, y10, y11, rfl⟩⟩ := I
  unfold wpX_fencesNeeded
  refine sq_xExp hW hX (fun e x1 x2 x3 x4 x5 x6 x7 x8 hE => ?_)
  obtain ⟨rfl, rfl, hp, L, S, la, ss, rfl, rfl, rfl, rfl, hL, hS, hLS, hSS⟩ := id hE
  have hl4 := hW.2.2.2.2.1
  refine sq_xFen hW hp hS (fun o ho => sq_PX_lt hl4 ho) hSS (fun l hl A => ?_)
  refine sq_yGo1 (yf_storeCount := y1) (yf_loadCount := y2) hW (fun sb T st ld fo pl A' hT hTS => ?_)
  refine sq_yNeed hW hT (fun o ho => sq_PY_lt hl4 ho) hTS (fun F o ho => sq_PY_lt hl4 ho) (fun l' z1 z2 z3 z4 z5 z6 z7 z8 z9 hl' => ⟨?_, sq_rel hW hE⟩)
  rw [sq_lst_eq hW (sq_bridge hW (Or.inl ⟨rfl, sq_b31⟩)) hl hl']
