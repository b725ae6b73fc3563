/-! the relation; the calls that change the program -/
def sq_XE (n : Nat) (ow kd vr vl : Nat → Nat) (f_loadCount f_orderCount f_lateCount f_strictCount : Int32) (a_lateSet a_strictSet a_place : Nat → Int32) : Prop :=
  f_loadCount = nI (sq_cn (sq_ll kd) n) ∧ f_orderCount = nI (sq_fac n) ∧ (∀ i, i < n → a_place i = nI (2 * sq_sl kd vr i)) ∧ ∃ L S la ss, f_lateCount = nI L ∧ f_strictCount = nI S ∧ a_lateSet = sq_nA la ∧ a_strictSet = sq_nA ss ∧ L ≤ 720 ∧ S ≤ 720 ∧ sq_SS la L (sq_PX n ow kd vr vl (bt 0)) ∧ sq_SS ss S (sq_PX n ow kd vr vl (bt 31))
def sq_RX (u : SX) (n : Nat) (ow kd vr vl : Nat → Nat) : Prop := ∃ f_explored f_loadCount f_orderCount f_lateCount f_strictCount a_lateSet a_strictSet a_place a_earlier, u = ((nI n), f_explored, f_loadCount, f_orderCount, f_lateCount, f_strictCount, (sq_nA ow), (sq_nA kd), (sq_nA vr), (sq_nA vl), a_lateSet, a_strictSet, a_place, a_earlier) ∧ (f_explored = 0 ∨ sq_XE n ow kd vr vl f_loadCount f_orderCount f_lateCount f_strictCount a_lateSet a_strictSet a_place)
def sq_RY (v : SY) (n : Nat) (ow kd vr vl : Nat → Nat) : Prop := ∃ yf_storeCount yf_loadCount yf_listed yf_strictListed ya_stores ya_loads ya_found ya_place ya_after ya_list ya_strictList, v = ((nI n), 0, yf_storeCount, yf_loadCount, yf_listed, yf_strictListed, (sq_nA kd), (sq_nA ow), (sq_nA vr), (sq_nA vl), ya_stores, ya_loads, ya_found, ya_place, ya_after, ya_list, ya_strictList)
def i_Rel (k : Nat) (u : SX) (v : SY) : Prop := k = k ∧ ∃ n ow kd vr vl, sq_W n ow kd vr vl ∧ sq_RX u n ow kd vr vl ∧ sq_RY v n ow kd vr vl
theorem i_up {k : Nat} {u : SX} {v : SY} (h : i_Rel k u v) : i_Rel (k + 5) u v := ⟨rfl, h.2⟩
theorem sq_W0 : sq_W 0 (fun _ => 0) (fun _ => 0) (fun _ => 0) (fun _ => 0) := ⟨by omega, fun _ => Nat.zero_lt_succ _, fun _ => Nat.zero_lt_succ _, fun _ => Nat.zero_lt_succ _, fun _ => Nat.zero_lt_succ _, fun i j _ h => by omega⟩
theorem i_vc0 : wpX_init (fun u => wpY_init (fun v => i_Rel 0 u v)) :=
  ⟨rfl, 0, fun _ => 0, fun _ => 0, fun _ => 0, fun _ => 0, sq_W0, ⟨0, 0, 0, 0, 0, fun _ => 0, fun _ => 0, fun _ => 0, fun _ => 0, rfl, Or.inl rfl⟩, ⟨0, 0, 0, 0, fun _ => 0, fun _ => 0, fun _ => 0, fun _ => 0, fun _ => 0, fun _ => 0, fun _ => 0, rfl⟩⟩
theorem sq_arg (x : Int32) {N : Nat} (h0 : 0 < N) (hN : N < 1000) : x < 0 ∨ (¬ x < 0 ∧ nI N ≤ x ∧ nI (N - 1) < x ∧ ¬ x ≤ nI (N - 1)) ∨ ∃ j, j < N ∧ x = nI j := by
  rcases pk_ix x (n := N) (by omega) with h | h | h
  · left; exact h
  · right; left
    have h1 := h
    rw [Int32.le_iff_toInt_le, nI_toInt (by omega)] at h1
    have z : (0 : Int32).toInt = 0 := by decide
    refine ⟨?_, h, ?_, ?_⟩
    · rw [Int32.lt_iff_toInt_lt, z]; omega
    · rw [Int32.lt_iff_toInt_lt, nI_toInt (by omega)]; omega
    · rw [Int32.le_iff_toInt_le, nI_toInt (by omega)]; omega
  · right; right; exact h
theorem sq_pu_b {f : Nat → Nat} {B c a v : Nat} (h : ∀ i, f i < B) (hv : v < B) : ∀ i, sq_pu f c a v i < B := by
  intro i
  show (if i < a then f i else if i = a then v else if i ≤ c then f (i - 1) else f i) < B
  split
  · exact h _
  · split
    · exact hv
    · split <;> exact h _
theorem sq_pd_b {f : Nat → Nat} {B d m : Nat} (h : ∀ i, f i < B) : ∀ i, sq_pd f d m i < B := by
  intro i
  show (if d ≤ i ∧ i < m then f (i + 1) else f i) < B
  split <;> exact h _
theorem sq_split {ow : Nat → Nat} {n : Nat} (t : Nat) (hso : ∀ i j, i < j → j < n → ow i ≤ ow j) : ∃ e, e ≤ n ∧ (∀ i, i < e → ow i ≤ t) ∧ (∀ i, e ≤ i → i < n → t < ow i) := by
  have key : ∀ m, m ≤ n → ∃ e, e ≤ m ∧ (∀ i, i < e → ow i ≤ t) ∧ (∀ i, e ≤ i → i < m → t < ow i) := by
    intro m
    induction m with
    | zero => intro _; exact ⟨0, by omega, fun i h => by omega, fun i _ h => by omega⟩
    | succ m ih =>
      intro hm
      obtain ⟨e, h1, h2, h3⟩ := ih (by omega)
      by_cases c : ow m ≤ t
      · refine ⟨m + 1, by omega, fun i hi => ?_, fun i a b => by omega⟩
        by_cases ei : i = m
        · rw [ei]; exact c
        · have := hso i m (by omega) (by omega); omega
      · refine ⟨e, by omega, h2, fun i a b => ?_⟩
        by_cases ei : i = m
        · rw [ei]; omega
        · exact h3 i a (by omega)
  exact key n (Nat.le_refl _)
theorem sq_Wadd {n : Nat} {ow kd vr vl : Nat → Nat} {t k x v e : Nat} (hW : sq_W n ow kd vr vl) (hn : n < 6) (ht : t < 4) (hk : k < 3) (hx : x < 3) (hv : v < 4) (he : e ≤ n) (hlo : ∀ i, i < e → ow i ≤ t) (hhi : ∀ i, e ≤ i → i < n → t < ow i) :
    sq_W (n + 1) (sq_pu ow n e t) (sq_pu kd n e k) (sq_pu vr n e x) (sq_pu vl n e v) := by
  obtain ⟨_, h1, h2, h3, h4, h5⟩ := hW
  refine ⟨by omega, sq_pu_b h1 ht, sq_pu_b h2 hk, sq_pu_b h3 hx, sq_pu_b h4 hv, fun i j hij hj => ?_⟩
  have v1 : ∀ i, i < e → sq_pu ow n e t i = ow i := fun i hi => if_pos hi
  have v2 : sq_pu ow n e t e = t := by show (if e < e then _ else if e = e then t else _) = t; rw [if_neg (by omega), if_pos rfl]
  have v3 : ∀ i, e < i → i ≤ n → sq_pu ow n e t i = ow (i - 1) := by
    intro i a b
    show (if i < e then _ else if i = e then t else if i ≤ n then ow (i - 1) else _) = _
    rw [if_neg (by omega), if_neg (by omega), if_pos b]
  by_cases ci : i < e
  · rw [v1 i ci]
    by_cases cj : j < e
    · rw [v1 j cj]; exact h5 i j hij (by omega)
    · by_cases ej : j = e
      · rw [ej, v2]; exact hlo i ci
      · rw [v3 j (by omega) (by omega)]
        have a := hlo i ci
        have b := hhi (j - 1) (by omega) (by omega)
        omega
  · by_cases ei : i = e
    · rw [ei, v2, v3 j (by omega) (by omega)]
      exact Nat.le_of_lt (hhi (j - 1) (by omega) (by omega))
    · rw [v3 i (by omega) (by omega), v3 j (by omega) (by omega)]
      exact h5 (i - 1) (j - 1) (by omega) (by omega)
theorem sq_Wdrop {n : Nat} {ow kd vr vl : Nat → Nat} {d : Nat} (hW : sq_W n ow kd vr vl) (hd : d < n) : sq_W (n - 1) (sq_pd ow d (n - 1)) (sq_pd kd d (n - 1)) (sq_pd vr d (n - 1)) (sq_pd vl d (n - 1)) := by
  obtain ⟨h0, h1, h2, h3, h4, h5⟩ := hW
  refine ⟨by omega, sq_pd_b h1, sq_pd_b h2, sq_pd_b h3, sq_pd_b h4, fun i j hij hj => ?_⟩
  have v1 : ∀ i, i < d → sq_pd ow d (n - 1) i = ow i := by
    intro i hi
    show (if d ≤ i ∧ i < n - 1 then _ else _) = _
    rw [if_neg (by omega)]
  have v2 : ∀ i, d ≤ i → i < n - 1 → sq_pd ow d (n - 1) i = ow (i + 1) := fun i a b => if_pos ⟨a, b⟩
  by_cases ci : i < d
  · rw [v1 i ci]
    by_cases cj : j < d
    · rw [v1 j cj]; exact h5 i j hij (by omega)
    · rw [v2 j (by omega) hj]; exact h5 i (j + 1) (by omega) (by omega)
  · rw [v2 i (by omega) (by omega), v2 j (by omega) hj]; exact h5 (i + 1) (j + 1) (by omega) (by omega)
theorem i_vc_store {k : Nat} {u : SX} {v : SY} (I : i_Rel k u v) (hk : k + 5 ≤ 2560) (v1 : Int32) (v2 : Int32) (v3 : Int32) : wpX_store (fun r u' => wpY_store (fun r' v' => r' = r ∧ i_Rel (k + 5) u' v') v v1 v2 v3) u v1 v2 v3 := by
  have I' := i_up I
  obtain ⟨_, n, ow, kd, vr, vl, hW, ⟨f_explored, f_loadCount, f_orderCount, f_lateCount, f_strictCount, a_lateSet, a_strictSet, a_place, a_earlier, rfl, hX⟩, ⟨y1, y2, y3, y4, y5, y6, y7, y8, y9, y10, y11, rfl⟩⟩ := I
  rcases sq_arg v1 (N := 4) (by decide) (by decide) with a | ⟨a0, a1, a2, a3⟩ | ⟨t, ht, rfl⟩
  · exact br_t a (br_t rfl (br_t a (br_t rfl ⟨rfl, I'⟩)))
  · exact br_f a0 (br_t a1 (br_t rfl (br_f a0 (br_t a2 (br_t rfl ⟨rfl, I'⟩)))))
  have t0 : ¬ nI t < 0 := nI_pos (by omega)
  have t4 : ¬ (4 : Int32) ≤ nI t := nI_ge (b := 4) ht (by decide)
  have t3 : ¬ (3 : Int32) < nI t := nI_nlt (a := 3) (by omega) (by decide)
  refine br_f t0 (br_f t4 (br_f (by decide) ?_))
  rcases sq_arg v2 (N := 3) (by decide) (by decide) with b | ⟨b0, b1, b2, b3⟩ | ⟨x, hx, rfl⟩
  · exact br_t b (br_t rfl (br_f t0 (br_f t3 (br_t b (br_t rfl ⟨rfl, I'⟩)))))
  · exact br_f b0 (br_t b1 (br_t rfl (br_f t0 (br_f t3 (br_f b0 (br_t b2 (br_t rfl ⟨rfl, I'⟩)))))))
  have x0 : ¬ nI x < 0 := nI_pos (by omega)
  have x3 : ¬ (3 : Int32) ≤ nI x := nI_ge (b := 3) hx (by decide)
  have x2 : ¬ (2 : Int32) < nI x := nI_nlt (a := 2) (by omega) (by decide)
  refine br_f x0 (br_f x3 (br_f (by decide) ?_))
  by_cases c1 : v3 < 1
  · exact br_t c1 (br_f t0 (br_f t3 (br_f x0 (br_f x2 (br_t c1 (br_t rfl ⟨rfl, I'⟩))))))
  refine br_f c1 ?_
  rcases sq_arg v3 (N := 4) (by decide) (by decide) with c | ⟨c0, c3, c4, c5⟩ | ⟨w, hw, rfl⟩
  · exact absurd (Int32.lt_trans c (by decide)) c1
  · exact br_f c5 (br_f t0 (br_f t3 (br_f x0 (br_f x2 (br_f c1 (br_t c4 (br_t rfl ⟨rfl, I'⟩)))))))
  have w3 : nI w ≤ (3 : Int32) := nI_le (b := 3) (by omega) (by decide)
  have w4 : ¬ (3 : Int32) < nI w := nI_nlt (a := 3) (by omega) (by decide)
  refine br_t w3 ?_
  obtain ⟨hn, ho, _, _, _, hso⟩ := id hW
  by_cases h6 : n = 6
  · refine sq_xFull h6 ?_
    refine br_f t0 (br_f t3 (br_f x0 (br_f x2 (br_f c1 (br_f w4 (br_f (by decide) ?_))))))
    exact sq_yFull h6 ⟨rfl, I'⟩
  · obtain ⟨e, he, hlo, hhi⟩ := sq_split t hso
    refine sq_xApp (k := 0) (by omega) ht ho he hlo hhi (sq_pu_b ho ht) ?_
    refine br_f t0 (br_f t3 (br_f x0 (br_f x2 (br_f c1 (br_f w4 (br_f (by decide) ?_))))))
    refine sq_yIns (k := 0) (by omega) ht ho he hlo hhi (sq_pu_b ho ht) ⟨rfl, rfl, n + 1, _, _, _, _, sq_Wadd hW (by omega) ht (by omega) hx hw he hlo hhi, ⟨_, _, _, _, _, _, _, _, _, rfl, Or.inl rfl⟩, ⟨_, _, _, _, _, _, _, _, _, _, _, rfl⟩⟩
theorem i_vc_load {k : Nat} {u : SX} {v : SY} (I : i_Rel k u v) (hk : k + 5 ≤ 2560) (v1 : Int32) (v2 : Int32) : wpX_load (fun r u' => wpY_load (fun r' v' => r' = r ∧ i_Rel (k + 5) u' v') v v1 v2) u v1 v2 := by
  have I' := i_up I
  obtain ⟨_, n, ow, kd, vr, vl, hW, ⟨f_explored, f_loadCount, f_orderCount, f_lateCount, f_strictCount, a_lateSet, a_strictSet, a_place, a_earlier, rfl, hX⟩, ⟨y1, y2, y3, y4, y5, y6, y7, y8, y9, y10, y11, rfl⟩⟩ := I
  rcases sq_arg v1 (N := 4) (by decide) (by decide) with a | ⟨a0, a1, a2, a3⟩ | ⟨t, ht, rfl⟩
  · exact br_t a (br_t rfl (br_t a (br_t rfl ⟨rfl, I'⟩)))
  · exact br_f a0 (br_t a1 (br_t rfl (br_f a0 (br_t a2 (br_t rfl ⟨rfl, I'⟩)))))
  have t0 : ¬ nI t < 0 := nI_pos (by omega)
  have t4 : ¬ (4 : Int32) ≤ nI t := nI_ge (b := 4) ht (by decide)
  have t3 : ¬ (3 : Int32) < nI t := nI_nlt (a := 3) (by omega) (by decide)
  refine br_f t0 (br_f t4 (br_f (by decide) ?_))
  rcases sq_arg v2 (N := 3) (by decide) (by decide) with b | ⟨b0, b1, b2, b3⟩ | ⟨x, hx, rfl⟩
  · exact br_t b (br_t rfl (br_f t0 (br_f t3 (br_t b (br_t rfl ⟨rfl, I'⟩)))))
  · exact br_f b0 (br_t b1 (br_t rfl (br_f t0 (br_f t3 (br_f b0 (br_t b2 (br_t rfl ⟨rfl, I'⟩)))))))
  have x0 : ¬ nI x < 0 := nI_pos (by omega)
  have x3 : ¬ (3 : Int32) ≤ nI x := nI_ge (b := 3) hx (by decide)
  have x2 : ¬ (2 : Int32) < nI x := nI_nlt (a := 2) (by omega) (by decide)
  refine br_f x0 (br_f x3 (br_f (by decide) ?_))
  obtain ⟨hn, ho, _, _, _, hso⟩ := id hW
  by_cases h6 : n = 6
  · refine sq_xFull h6 ?_
    refine br_f t0 (br_f t3 (br_f x0 (br_f x2 (br_f (by decide) ?_))))
    exact sq_yFull h6 ⟨rfl, I'⟩
  · obtain ⟨e, he, hlo, hhi⟩ := sq_split t hso
    refine sq_xApp (k := 1) (v := 0) (by omega) ht ho he hlo hhi (sq_pu_b ho ht) ?_
    refine br_f t0 (br_f t3 (br_f x0 (br_f x2 (br_f (by decide) ?_))))
    refine sq_yIns (k := 1) (v := 0) (by omega) ht ho he hlo hhi (sq_pu_b ho ht) ⟨rfl, rfl, n + 1, _, _, _, _, sq_Wadd hW (by omega) ht (by omega) hx (by omega) he hlo hhi, ⟨_, _, _, _, _, _, _, _, _, rfl, Or.inl rfl⟩, ⟨_, _, _, _, _, _, _, _, _, _, _, rfl⟩⟩
theorem i_vc_fence {k : Nat} {u : SX} {v : SY} (I : i_Rel k u v) (hk : k + 5 ≤ 2560) (v1 : Int32) : wpX_fence (fun r u' => wpY_fence (fun r' v' => r' = r ∧ i_Rel (k + 5) u' v') v v1) u v1 := by
  have I' := i_up I
  obtain ⟨_, n, ow, kd, vr, vl, hW, ⟨f_explored, f_loadCount, f_orderCount, f_lateCount, f_strictCount, a_lateSet, a_strictSet, a_place, a_earlier, rfl, hX⟩, ⟨y1, y2, y3, y4, y5, y6, y7, y8, y9, y10, y11, rfl⟩⟩ := I
  rcases sq_arg v1 (N := 4) (by decide) (by decide) with a | ⟨a0, a1, a2, a3⟩ | ⟨t, ht, rfl⟩
  · exact br_t a (br_t rfl (br_t a ⟨rfl, I'⟩))
  · exact br_f a0 (br_t a1 (br_t rfl (br_f a0 (br_t a2 ⟨rfl, I'⟩))))
  have t0 : ¬ nI t < 0 := nI_pos (by omega)
  have t4 : ¬ (4 : Int32) ≤ nI t := nI_ge (b := 4) ht (by decide)
  have t3 : ¬ (3 : Int32) < nI t := nI_nlt (a := 3) (by omega) (by decide)
  refine br_f t0 (br_f t4 (br_f (by decide) ?_))
  obtain ⟨hn, ho, _, _, _, hso⟩ := id hW
  by_cases h6 : n = 6
  · refine sq_xFull h6 ?_
    refine br_f t0 (br_f t3 ?_)
    exact sq_yFull h6 ⟨rfl, I'⟩
  · obtain ⟨e, he, hlo, hhi⟩ := sq_split t hso
    refine sq_xApp (k := 2) (x := 0) (v := 0) (by omega) ht ho he hlo hhi (sq_pu_b ho ht) ?_
    refine br_f t0 (br_f t3 ?_)
    refine sq_yIns (k := 2) (x := 0) (v := 0) (by omega) ht ho he hlo hhi (sq_pu_b ho ht) ⟨rfl, rfl, n + 1, _, _, _, _, sq_Wadd hW (by omega) ht (by omega) (by omega) (by omega) he hlo hhi, ⟨_, _, _, _, _, _, _, _, _, rfl, Or.inl rfl⟩, ⟨_, _, _, _, _, _, _, _, _, _, _, rfl⟩⟩
theorem i_vc_drop {k : Nat} {u : SX} {v : SY} (I : i_Rel k u v) (hk : k + 5 ≤ 2560) (v1 : Int32) : wpX_drop (fun r u' => wpY_drop (fun r' v' => r' = r ∧ i_Rel (k + 5) u' v') v v1) u v1 := by
  have I' := i_up I
  obtain ⟨_, n, ow, kd, vr, vl, hW, ⟨f_explored, f_loadCount, f_orderCount, f_lateCount, f_strictCount, a_lateSet, a_strictSet, a_place, a_earlier, rfl, hX⟩, ⟨y1, y2, y3, y4, y5, y6, y7, y8, y9, y10, y11, rfl⟩⟩ := I
  rcases sq_arg v1 (N := 4) (by decide) (by decide) with a | ⟨a0, a1, a2, a3⟩ | ⟨t, ht, rfl⟩
  · exact br_t a (br_t rfl (br_t a ⟨rfl, I'⟩))
  · exact br_f a0 (br_t a1 (br_t rfl (br_f a0 (br_f a3 ⟨rfl, I'⟩))))
  obtain ⟨hn, ho, _, _, _, hso⟩ := id hW
  by_cases hex : ∃ i, i < n ∧ ow i = t
  · obtain ⟨d, hd, hdt, hl⟩ := sq_last (fun i => ow i = t) n hex
    have hlo : ∀ i, i < d + 1 → ow i ≤ t := by
      intro i hi
      by_cases e : i = d
      · rw [e, hdt]; exact Nat.le_refl _
      · have := hso i d (by omega) hd; omega
    have hhi : ∀ i, d + 1 ≤ i → i < n → t < ow i := by
      intro i h1 h2
      have a := hso d i (by omega) h2
      have b : ow i ≠ t := fun z => by have := hl i h2 z; omega
      omega
    have hcn := (sq_pd_c (p := ow) (n := n - 1) hdt (n - 1) (Nat.le_refl _)).2 (by omega)
    have e1 : n - 1 + 1 = n := by omega
    rw [e1] at hcn
    refine sq_xDrop hn ht ho hd hdt hlo hhi ?_
    refine sq_yDropS hn ht ho (fun z => absurd hdt (z d hd)) (fun d' hd' hdt' hl' => ?_)
    have ed : d' = d := by
      have a := hl d' hd' hdt'
      rcases Nat.lt_or_ge d' d with z | z
      · exact absurd hdt (hl' d z hd)
      · omega
    subst ed
    refine ⟨n + 1, ?_⟩
    have key := fun h => sq_yDropL (n := n) (t := t) (d := d') (yf_fences := 0) (yf_storeCount := y1) (yf_loadCount := y2) (yf_listed := y3) (yf_strictListed := y4) (ya_stores := y5) (ya_loads := y6) (ya_found := y7) (ya_place := y8) (ya_after := y9) (ya_list := y10) (ya_strictList := y11) (post := fun r' v' => r' = nI (sq_cn (fun i => decide (ow i = t)) n) - 1 ∧ i_Rel (k + 5) ((nI (n - 1)), 0, f_loadCount, f_orderCount, f_lateCount, f_strictCount, (sq_nA (sq_pd ow d' (n - 1))), (sq_nA (sq_pd kd d' (n - 1))), (sq_nA (sq_pd vr d' (n - 1))), (sq_nA (sq_pd vl d' (n - 1))), a_lateSet, a_strictSet, a_place, a_earlier) v') ow kd vr vl hn ht hd' (sq_pd_b ho) h (n + 1) d' (by omega) (Nat.le_refl _) hd'
    rw [sq_pd_0, sq_pd_0, sq_pd_0, sq_pd_0] at key
    refine key ⟨?_, rfl, n - 1, _, _, _, _, sq_Wdrop hW hd', ⟨_, _, _, _, _, _, _, _, _, rfl, Or.inl rfl⟩, ⟨_, _, _, _, _, _, _, _, _, _, _, rfl⟩⟩
    rw [← hcn, nI_pred]
  · have hno : ∀ i, i < n → ow i ≠ t := fun i a b => hex ⟨i, a, b⟩
    refine sq_xDrop0 hn ht ho hno ?_
    exact sq_yDropS hn ht ho (fun _ => ⟨rfl, I'⟩) (fun d hd hdt _ => absurd hdt (hno d hd))
theorem i_vc_clear {k : Nat} {u : SX} {v : SY} (I : i_Rel k u v) (hk : k + 5 ≤ 2560) : wpX_clear (fun u' => wpY_clear (fun v' => i_Rel (k + 5) u' v') v) u := by
  obtain ⟨_, n, ow, kd, vr, vl, hW, ⟨f_explored, f_loadCount, f_orderCount, f_lateCount, f_strictCount, a_lateSet, a_strictSet, a_place, a_earlier, rfl, hX⟩, ⟨y1, y2, y3, y4, y5, y6, y7, y8, y9, y10, y11, rfl⟩⟩ := I
  obtain ⟨h0, h1, h2, h3, h4, h5⟩ := hW
  exact ⟨rfl, 0, ow, kd, vr, vl, ⟨by omega, h1, h2, h3, h4, fun i j _ h => by omega⟩, ⟨_, _, _, _, _, _, _, _, _, rfl, Or.inl rfl⟩, ⟨_, _, _, _, _, _, _, _, _, _, _, rfl⟩⟩
theorem i_vc_size {k : Nat} {u : SX} {v : SY} (I : i_Rel k u v) (hk : k + 5 ≤ 2560) : wpX_size (fun r => wpY_size (fun r' => r' = r ∧ i_Rel (k + 5) u v) v) u := by
  have I' := i_up I
  obtain ⟨_, n, ow, kd, vr, vl, hW, ⟨f_explored, f_loadCount, f_orderCount, f_lateCount, f_strictCount, a_lateSet, a_strictSet, a_place, a_earlier, rfl, hX⟩, ⟨y1, y2, y3, y4, y5, y6, y7, y8, y9, y10, y11, rfl⟩⟩ := I
  exact ⟨rfl, I'⟩
