/-! the reference: insert and drop -/
section
variable {n : Nat} {ow kd vr vl : Nat → Nat} {yf_fences yf_storeCount yf_loadCount yf_listed yf_strictListed : Int32} {ya_stores ya_loads ya_found ya_place ya_after ya_list ya_strictList : Nat → Int32}
theorem sq_yCnt {t : Nat} (hn : n ≤ 6) (ht : t < 4) (hw : ∀ i, ow i < 4) {post : Int32 → Prop} (h : post (nI (sq_cn (fun i => decide (ow i = t)) n))) : wpY_countOf post ((nI n), yf_fences, yf_storeCount, yf_loadCount, yf_listed, yf_strictListed, (sq_nA kd), (sq_nA ow), (sq_nA vr), (sq_nA vl), ya_stores, ya_loads, ya_found, ya_place, ya_after, ya_list, ya_strictList) (nI t) := by
  have key : ∀ N i, n - i < N → i ≤ n → wY_countOf_4 post (nI t) (nI n) yf_fences yf_storeCount yf_loadCount yf_listed yf_strictListed (sq_nA kd) (sq_nA ow) (sq_nA vr) (sq_nA vl) ya_stores ya_loads ya_found ya_place ya_after ya_list ya_strictList N (nI (sq_cn (fun i => decide (ow i = t)) i)) (nI i) := by
    intro N
    induction N with
    | zero => intro i h1; omega
    | succ N ih =>
      intro i h1 h2
      have hwi := hw i
      refine pk_le n i (fun h3 => ?_) (fun h3 => ⟨pk_in i 6 (by omega), pk_eq (ow i) t (fun h4 => nm_r ?_ (nm_r (nI_1 i) (ih (i + 1) (by omega) (by omega)))) (fun h4 => nm_r (nI_1 i) ?_) (sq_at ow (by omega)) rfl (by omega) (by omega)⟩)
      · have : i = n := by omega
        rw [this]; exact h
      · rw [sq_cn_t (p := fun i => decide (ow i = t)) (decide_eq_true h4), nI_1]
      · have := ih (i + 1) (by omega) (by omega)
        rw [sq_cn_f (p := fun i => decide (ow i = t)) (decide_eq_false h4)] at this
        exact this
  exact Exists.intro (n + 1) (key (n + 1) 0 (by omega) (by omega))
theorem sq_yInsL {t k x v e : Nat} (ow0 kd0 vr0 vl0 : Nat → Nat) {post : Int32 → SY → Prop} (hn : n < 6) (he : e ≤ n) (ht : t < 4) (hw : ∀ i, sq_pu ow0 n e t i < 4)
    (h : post (nI (sq_cn (fun i => decide (sq_pu ow0 n e t i = t)) (n + 1))) ((nI (n + 1)), yf_fences, yf_storeCount, yf_loadCount, yf_listed, yf_strictListed, (sq_nA (sq_pu kd0 n e k)), (sq_nA (sq_pu ow0 n e t)), (sq_nA (sq_pu vr0 n e x)), (sq_nA (sq_pu vl0 n e v)), ya_stores, ya_loads, ya_found, ya_place, ya_after, ya_list, ya_strictList)) :
    ∀ N i, i < N → e ≤ i → i ≤ n → wY_insert_47 post (nI k) (nI t) (nI x) (nI v) (nI e) (nI n) yf_fences yf_storeCount yf_loadCount yf_listed yf_strictListed N (nI i) (sq_nA (sq_ps kd0 n i)) (sq_nA (sq_ps ow0 n i)) (sq_nA (sq_ps vr0 n i)) (sq_nA (sq_ps vl0 n i)) ya_stores ya_loads ya_found ya_place ya_after ya_list ya_strictList := by
  intro N
  induction N with
  | zero => intro i h1; omega
  | succ N ih =>
    intro i h1 h2 h3
    refine pk_le i e (fun h4 => ?_) (fun h4 => ?_)
    · have ei : i = e := by omega
      subst ei
      refine ⟨pk_in i 6 (by omega), nm_r (sq_sto _ k (by omega)) ⟨pk_in i 6 (by omega), nm_r (sq_sto _ t (by omega)) ⟨pk_in i 6 (by omega), nm_r (sq_sto _ x (by omega)) ⟨pk_in i 6 (by omega), nm_r (sq_sto _ v (by omega)) (nm_r (nI_1 n) ?_)⟩⟩⟩⟩
      rw [sq_ps_e, sq_ps_e, sq_ps_e, sq_ps_e]
      exact sq_yCnt (by omega) ht hw h
    · obtain ⟨j, rfl⟩ : ∃ j, i = j + 1 := ⟨i - 1, by omega⟩
      have hp : nI (j + 1) - 1 = nI j := nI_pred j
      have cp : ∀ f : Nat → Nat, upd (sq_nA f) (nI (j + 1)).toNatClampNeg (sq_nA f (nI (j + 1) - 1).toNatClampNeg) = sq_nA (sq_up f (j + 1) (f j)) := by
        intro f
        rw [hp]; exact sq_cpy f (by omega) (by omega)
      refine ⟨pk_in j 6 (by omega) hp, pk_in (j + 1) 6 (by omega), nm_r (cp _) ⟨pk_in j 6 (by omega) hp, pk_in (j + 1) 6 (by omega), nm_r (cp _) ⟨pk_in j 6 (by omega) hp, pk_in (j + 1) 6 (by omega), nm_r (cp _) ⟨pk_in j 6 (by omega) hp, pk_in (j + 1) 6 (by omega), nm_r (cp _) (nm_r (pk_m1 j) ?_)⟩⟩⟩⟩
      rw [sq_ps_s ow0 (by omega), sq_ps_s kd0 (by omega), sq_ps_s vr0 (by omega), sq_ps_s vl0 (by omega)]
      exact ih j (by omega) (by omega) (by omega)
theorem sq_yIns {t k x v e : Nat} {post : Int32 → SY → Prop} (hn : n < 6) (ht : t < 4) (hw : ∀ i, ow i < 4) (he : e ≤ n) (hlo : ∀ i, i < e → ow i ≤ t) (hhi : ∀ i, e ≤ i → i < n → t < ow i) (hw' : ∀ i, sq_pu ow n e t i < 4)
    (h : post (nI (sq_cn (fun i => decide (sq_pu ow n e t i = t)) (n + 1))) ((nI (n + 1)), yf_fences, yf_storeCount, yf_loadCount, yf_listed, yf_strictListed, (sq_nA (sq_pu kd n e k)), (sq_nA (sq_pu ow n e t)), (sq_nA (sq_pu vr n e x)), (sq_nA (sq_pu vl n e v)), ya_stores, ya_loads, ya_found, ya_place, ya_after, ya_list, ya_strictList)) :
    wpY_insert post ((nI n), yf_fences, yf_storeCount, yf_loadCount, yf_listed, yf_strictListed, (sq_nA kd), (sq_nA ow), (sq_nA vr), (sq_nA vl), ya_stores, ya_loads, ya_found, ya_place, ya_after, ya_list, ya_strictList) (nI k) (nI t) (nI x) (nI v) := by
  have fin : ∃ N, wY_insert_47 post (nI k) (nI t) (nI x) (nI v) (nI e) (nI n) yf_fences yf_storeCount yf_loadCount yf_listed yf_strictListed N (nI n) (sq_nA kd) (sq_nA ow) (sq_nA vr) (sq_nA vl) ya_stores ya_loads ya_found ya_place ya_after ya_list ya_strictList := by
    refine ⟨n + 1, ?_⟩
    have := sq_yInsL (n := n) ow kd vr vl hn he ht hw' h (n + 1) n (by omega) he (Nat.le_refl _)
    rw [sq_ps_0, sq_ps_0, sq_ps_0, sq_ps_0] at this
    exact this
  have key : ∀ N i, e - i < N → i ≤ e → wY_insert_15 post (nI k) (nI t) (nI x) (nI v) (nI n) yf_fences yf_storeCount yf_loadCount yf_listed yf_strictListed (sq_nA kd) (sq_nA ow) (sq_nA vr) (sq_nA vl) ya_stores ya_loads ya_found ya_place ya_after ya_list ya_strictList N (nI i) := by
    intro N
    induction N with
    | zero => intro i h1; omega
    | succ N ih =>
      intro i h1 h2
      have hwi := hw i
      refine pk_le n i (fun h3 => ?_) (fun h3 => ⟨pk_in i 6 (by omega), pk_lt t (ow i) (fun h4 => ?_) (fun h4 => nm_r (nI_1 i) (ih (i + 1) ?_ ?_)) rfl (sq_at ow (by omega)) (by omega) (by omega)⟩)
      · have : i = e := by omega
        rw [this]; exact fin
      · have : i = e := by
          rcases Nat.lt_or_ge i e with z | z
          · have := hlo i z; omega
          · omega
        rw [this]; exact fin
      · have : i ≠ e := fun z => by have := hhi i (by omega) h3; omega
        omega
      · have : i ≠ e := fun z => by have := hhi i (by omega) h3; omega
        omega
  refine pk_eq n 6 (fun h2 => by omega) (fun _ => ?_)
  exact Exists.intro (e + 1) (key (e + 1) 0 (by omega) (Nat.zero_le _))
theorem sq_yFull {t k x v : Int32} {post : Int32 → SY → Prop} (hn : n = 6) (h : post (-2) ((nI n), yf_fences, yf_storeCount, yf_loadCount, yf_listed, yf_strictListed, (sq_nA kd), (sq_nA ow), (sq_nA vr), (sq_nA vl), ya_stores, ya_loads, ya_found, ya_place, ya_after, ya_list, ya_strictList)) : wpY_insert post ((nI n), yf_fences, yf_storeCount, yf_loadCount, yf_listed, yf_strictListed, (sq_nA kd), (sq_nA ow), (sq_nA vr), (sq_nA vl), ya_stores, ya_loads, ya_found, ya_place, ya_after, ya_list, ya_strictList) k t x v :=
  pk_eq n 6 (fun _ => h) (fun h2 => absurd hn h2)
theorem sq_yDropL {t d : Nat} (ow0 kd0 vr0 vl0 : Nat → Nat) {post : Int32 → SY → Prop} (hn : n ≤ 6) (ht : t < 4) (hd : d < n) (hw : ∀ i, sq_pd ow0 d (n - 1) i < 4)
    (h : post (nI (sq_cn (fun i => decide (sq_pd ow0 d (n - 1) i = t)) (n - 1))) ((nI (n - 1)), yf_fences, yf_storeCount, yf_loadCount, yf_listed, yf_strictListed, (sq_nA (sq_pd kd0 d (n - 1))), (sq_nA (sq_pd ow0 d (n - 1))), (sq_nA (sq_pd vr0 d (n - 1))), (sq_nA (sq_pd vl0 d (n - 1))), ya_stores, ya_loads, ya_found, ya_place, ya_after, ya_list, ya_strictList)) :
    ∀ N i, n - i < N → d ≤ i → i < n → wY_drop_64 post (nI t) (nI (n - 1)) yf_fences yf_storeCount yf_loadCount yf_listed yf_strictListed N (nI i) (sq_nA (sq_pd kd0 d i)) (sq_nA (sq_pd ow0 d i)) (sq_nA (sq_pd vr0 d i)) (sq_nA (sq_pd vl0 d i)) ya_stores ya_loads ya_found ya_place ya_after ya_list ya_strictList := by
  intro N
  induction N with
  | zero => intro i h1; omega
  | succ N ih =>
    intro i h1 h2 h3
    refine pk_le (n - 1) i (fun h4 => ?_) (fun h4 => ?_)
    · have ei : i = n - 1 := by omega
      subst ei
      exact sq_yCnt (by omega) ht hw h
    · have hp : nI i + 1 = nI (i + 1) := nI_1 i
      have cp : ∀ f : Nat → Nat, upd (sq_nA f) (nI i).toNatClampNeg (sq_nA f (nI i + 1).toNatClampNeg) = sq_nA (sq_up f i (f (i + 1))) := by
        intro f
        rw [hp]; exact sq_cpy f (by omega) (by omega)
      refine ⟨pk_in (i + 1) 6 (by omega) hp, pk_in i 6 (by omega), nm_r (cp _) ⟨pk_in (i + 1) 6 (by omega) hp, pk_in i 6 (by omega), nm_r (cp _) ⟨pk_in (i + 1) 6 (by omega) hp, pk_in i 6 (by omega), nm_r (cp _) ⟨pk_in (i + 1) 6 (by omega) hp, pk_in i 6 (by omega), nm_r (cp _) (nm_r hp ?_)⟩⟩⟩⟩
      rw [sq_pd_s ow0 h2, sq_pd_s kd0 h2, sq_pd_s vr0 h2, sq_pd_s vl0 h2]
      exact ih (i + 1) (by omega) (by omega) (by omega)
theorem sq_yDropS {t : Nat} {post : Int32 → SY → Prop} (hn : n ≤ 6) (ht : t < 4) (hw : ∀ i, ow i < 4) (h0 : (∀ i, i < n → ow i ≠ t) → post (-4) ((nI n), yf_fences, yf_storeCount, yf_loadCount, yf_listed, yf_strictListed, (sq_nA kd), (sq_nA ow), (sq_nA vr), (sq_nA vl), ya_stores, ya_loads, ya_found, ya_place, ya_after, ya_list, ya_strictList))
    (h1 : ∀ d, d < n → ow d = t → (∀ i, d < i → i < n → ow i ≠ t) → ∃ N, wY_drop_64 post (nI t) (nI (n - 1)) yf_fences yf_storeCount yf_loadCount yf_listed yf_strictListed N (nI d) (sq_nA kd) (sq_nA ow) (sq_nA vr) (sq_nA vl) ya_stores ya_loads ya_found ya_place ya_after ya_list ya_strictList) : wpY_drop post ((nI n), yf_fences, yf_storeCount, yf_loadCount, yf_listed, yf_strictListed, (sq_nA kd), (sq_nA ow), (sq_nA vr), (sq_nA vl), ya_stores, ya_loads, ya_found, ya_place, ya_after, ya_list, ya_strictList) (nI t) := by
  have key : ∀ N i (x : Int32), n - i < N → i ≤ n → ((x = -1 ∧ ∀ j, j < i → ow j ≠ t) ∨ ∃ d, x = nI d ∧ d < i ∧ ow d = t ∧ ∀ j, d < j → j < i → ow j ≠ t) → wY_drop_15 post (nI t) (nI n) yf_fences yf_storeCount yf_loadCount yf_listed yf_strictListed (sq_nA kd) (sq_nA ow) (sq_nA vr) (sq_nA vl) ya_stores ya_loads ya_found ya_place ya_after ya_list ya_strictList N x (nI i) := by
    intro N
    induction N with
    | zero => intro i x h1; omega
    | succ N ih =>
      intro i x h2 h3 hx
      have hwi := hw i
      refine pk_le n i (fun h4 => ?_) (fun h4 => ⟨pk_in i 6 (by omega), pk_eq (ow i) t (fun h5 => nm_r (nI_1 i) (ih (i + 1) (nI i) (by omega) (by omega) (Or.inr ⟨i, rfl, by omega, h5, fun j a b => by omega⟩))) (fun h5 => nm_r (nI_1 i) (ih (i + 1) x (by omega) (by omega) ?_)) (sq_at ow (by omega)) rfl (by omega) (by omega)⟩)
      · rcases hx with ⟨e, hx⟩ | ⟨d, e, hd, hx, hl⟩
        · subst e
          exact br_f (by decide) (h0 (fun j hj => hx j (by omega)))
        · subst e
          refine br_t (nI_pos' (by omega)) (nm_r (pk_sub (a := n) (b := 1) (by omega)) (h1 d (by omega) hx (fun j a b => hl j a (by omega))))
      · rcases hx with ⟨e, hx⟩ | ⟨d, e, hd, hx, hl⟩
        · left
          refine ⟨e, fun j hj => ?_⟩
          by_cases ej : j = i
          · rw [ej]; exact h5
          · exact hx j (by omega)
        · right
          refine ⟨d, e, by omega, hx, fun j a b => ?_⟩
          by_cases ej : j = i
          · rw [ej]; exact h5
          · exact hl j a (by omega)
  refine br_f (nI_pos (by omega)) (pk_le t 3 (fun _ => ?_) (fun h1 => by omega))
  exact Exists.intro (n + 1) (key (n + 1) 0 (-1) (by omega) (by omega) (Or.inl ⟨rfl, fun j hj => by omega⟩))
end
