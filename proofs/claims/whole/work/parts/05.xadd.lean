/-! the component: append and drop -/
theorem sq_cpy (f : Nat → Nat) {a b : Nat} (ha : a < 2 ^ 31) (hb : b < 2 ^ 31) : upd (sq_nA f) (nI b).toNatClampNeg (sq_nA f (nI a).toNatClampNeg) = sq_nA (sq_up f b (f a)) := by
  rw [sq_at f ha, nI_clamp hb, sq_upd]
theorem sq_sto (f : Nat → Nat) {b : Nat} (v : Nat) (hb : b < 2 ^ 31) : upd (sq_nA f) (nI b).toNatClampNeg (nI v) = sq_nA (sq_up f b v) := by
  rw [nI_clamp hb, sq_upd]
/-- f while the instruction at d goes and the copying stands at i -/
def sq_pd (f : Nat → Nat) (d i : Nat) : Nat → Nat := fun j => if d ≤ j ∧ j < i then f (j + 1) else f j
theorem sq_pd_0 (f : Nat → Nat) (d : Nat) : sq_pd f d d = f := by
  funext j
  show (if d ≤ j ∧ j < d then f (j + 1) else f j) = f j
  rw [if_neg (by omega)]
theorem sq_pd_s (f : Nat → Nat) {d i : Nat} (h : d ≤ i) : sq_up (sq_pd f d i) i (sq_pd f d i (i + 1)) = sq_pd f d (i + 1) := by
  have e0 : sq_pd f d i (i + 1) = f (i + 1) := by show (if _ then _ else _) = _; rw [if_neg (by omega)]
  funext j
  rw [e0]
  show (if j = i then f (i + 1) else (if d ≤ j ∧ j < i then f (j + 1) else f j)) = (if d ≤ j ∧ j < i + 1 then f (j + 1) else f j)
  by_cases e : j = i
  · rw [if_pos e, if_pos (by omega), e]
  · rw [if_neg e]
    by_cases h2 : d ≤ j ∧ j < i
    · rw [if_pos h2, if_pos (by omega)]
    · rw [if_neg h2, if_neg (by omega)]
theorem sq_pd_c {p : Nat → Nat} {t d : Nat} (hd : p d = t) {n : Nat} : ∀ m, m ≤ n → (m ≤ d → sq_cn (fun i => decide (sq_pd p d n i = t)) m = sq_cn (fun i => decide (p i = t)) m) ∧ (d ≤ m → sq_cn (fun i => decide (sq_pd p d n i = t)) m + 1 = sq_cn (fun i => decide (p i = t)) (m + 1)) := by
  have v1 : ∀ j, j < d → sq_pd p d n j = p j := by
    intro j hj
    show (if d ≤ j ∧ j < n then p (j + 1) else p j) = _
    rw [if_neg (by omega)]
  have v2 : ∀ j, d ≤ j → j < n → sq_pd p d n j = p (j + 1) := fun j hj h2 => if_pos ⟨hj, h2⟩
  have a1 : ∀ m, m ≤ d → sq_cn (fun i => decide (sq_pd p d n i = t)) m = sq_cn (fun i => decide (p i = t)) m := by
    intro m hm
    exact sq_cn_ext (fun i hi => by rw [v1 i (by omega)])
  intro m hmn
  refine ⟨a1 m, ?_⟩
  induction m with
  | zero =>
    intro h
    rw [sq_cn_t (p := fun i => decide (p i = t)) (n := 0) (decide_eq_true (by rw [← hd]; congr 1; omega))]
    rfl
  | succ m ih =>
    intro h
    by_cases e : d = m + 1
    · rw [sq_cn_t (p := fun i => decide (p i = t)) (n := m + 1) (decide_eq_true (by rw [← hd, e])), a1 (m + 1) (by omega)]
    · have h1 := ih (by omega) (by omega)
      rw [sq_cn_s, sq_cn_s (fun i => decide (p i = t)) (m + 1), ← h1, v2 m (by omega) (by omega)]
      omega
section
variable {n : Nat} {ow kd vr vl : Nat → Nat} {f_explored f_loadCount f_orderCount f_lateCount f_strictCount : Int32} {a_lateSet a_strictSet a_place a_earlier : Nat → Int32}
theorem sq_xEnd {t e : Nat} (hn : n ≤ 6) (ht : t < 4) (hw : ∀ i, ow i < 4) (he : e ≤ n) (hlo : ∀ i, i < e → ow i ≤ t) (hhi : ∀ i, e ≤ i → i < n → t < ow i) {post : Int32 → Prop} (h : post (nI e)) : wpX_endOf post ((nI n), f_explored, f_loadCount, f_orderCount, f_lateCount, f_strictCount, (sq_nA ow), (sq_nA kd), (sq_nA vr), (sq_nA vl), a_lateSet, a_strictSet, a_place, a_earlier) (nI t) := by
  have key : ∀ N i m, n - i < N → i ≤ n → m = (if i ≤ e then i else e) → wX_endOf_4 post (nI t) (nI n) f_explored f_loadCount f_orderCount f_lateCount f_strictCount (sq_nA ow) (sq_nA kd) (sq_nA vr) (sq_nA vl) a_lateSet a_strictSet a_place a_earlier N (nI m) (nI i) := by
    intro N
    induction N with
    | zero => intro i m h1; omega
    | succ N ih =>
      intro i m h1 h2 hm
      have hwi := hw i
      refine pk_le n i (fun h3 => ?_) (fun h3 => ⟨pk_in i 6 (by omega), pk_lt t (ow i) (fun h4 => nm_r (nI_1 i) (ih (i + 1) m (by omega) (by omega) ?_)) (fun h4 => nm_r (nI_1 i) (nm_r (nI_1 i) (ih (i + 1) (i + 1) (by omega) (by omega) ?_))) rfl (sq_at ow (by omega)) (by omega) (by omega)⟩)
      · have : m = e := by
          rw [hm]; split <;> omega
        rw [this]; exact h
      · have h5 : ¬ i < e := fun z => by have := hlo i z; omega
        rw [hm, if_neg (by omega : ¬ i + 1 ≤ e)]
        split <;> omega
      · have h5 : i < e := by
          rcases Nat.lt_or_ge i e with z | z
          · exact z
          · have := hhi i z h3; omega
        rw [if_pos (by omega)]
  exact Exists.intro (n + 1) (key (n + 1) 0 0 (by omega) (by omega) (by rw [if_pos (Nat.zero_le _)]))
theorem sq_xIns {t : Nat} (hn : n ≤ 6) (ht : t < 4) (hw : ∀ i, ow i < 4) {post : Int32 → Prop} (h : post (nI (sq_cn (fun i => decide (ow i = t)) n))) : wpX_instructionsOf post ((nI n), f_explored, f_loadCount, f_orderCount, f_lateCount, f_strictCount, (sq_nA ow), (sq_nA kd), (sq_nA vr), (sq_nA vl), a_lateSet, a_strictSet, a_place, a_earlier) (nI t) := by
  have key : ∀ N i, n - i < N → i ≤ n → wX_instructionsOf_4 post (nI t) (nI n) f_explored f_loadCount f_orderCount f_lateCount f_strictCount (sq_nA ow) (sq_nA kd) (sq_nA vr) (sq_nA vl) a_lateSet a_strictSet a_place a_earlier N (nI (sq_cn (fun i => decide (ow i = t)) i)) (nI i) := by
    intro N
    induction N with
    | zero => intro i h1; omega
    | succ N ih =>
      intro i h1 h2
      have hwi := hw i
      refine pk_le n i (fun h3 => ?_) (fun h3 => ⟨pk_in i 6 (by omega), pk_eq (ow i) t (fun h4 => nm_r ?_ (nm_r (nI_1 i) (ih (i + 1) (by omega) (by omega)))) (fun h4 => nm_r (nI_1 i) ?_) (sq_at ow (by omega)) rfl (by omega) (by omega)⟩)
      · have : i = n := by omega
        rw [this]; exact h
      · rw [sq_cn_t (p := fun i => decide (ow i = t)) (decide_eq_true h4), nI_1]
      · have := ih (i + 1) (by omega) (by omega)
        rw [sq_cn_f (p := fun i => decide (ow i = t)) (decide_eq_false h4)] at this
        exact this
  exact Exists.intro (n + 1) (key (n + 1) 0 (by omega) (by omega))
theorem sq_xCopyW {fl : Int32} {a b : Nat} {x y : Int32} {post : SX → Prop} (ha : a < 6) (hb : b < 6) (hx : x = nI a) (hy : y = nI b) (h : post (fl, f_explored, f_loadCount, f_orderCount, f_lateCount, f_strictCount, (sq_nA (sq_up ow b (ow a))), (sq_nA (sq_up kd b (kd a))), (sq_nA (sq_up vr b (vr a))), (sq_nA (sq_up vl b (vl a))), a_lateSet, a_strictSet, a_place, a_earlier)) : wpX_copyInstruction post (fl, f_explored, f_loadCount, f_orderCount, f_lateCount, f_strictCount, (sq_nA ow), (sq_nA kd), (sq_nA vr), (sq_nA vl), a_lateSet, a_strictSet, a_place, a_earlier) x y := by
  subst hx hy
  exact ⟨pk_in a 6 ha, pk_in b 6 hb, nm_r (sq_cpy ow (by omega) (by omega)) ⟨pk_in a 6 ha, pk_in b 6 hb, nm_r (sq_cpy kd (by omega) (by omega)) ⟨pk_in a 6 ha, pk_in b 6 hb, nm_r (sq_cpy vr (by omega) (by omega)) ⟨pk_in a 6 ha, pk_in b 6 hb, nm_r (sq_cpy vl (by omega) (by omega)) h⟩⟩⟩⟩
theorem sq_xAppL {t k x v e : Nat} (ow0 kd0 vr0 vl0 : Nat → Nat) {post : Int32 → SX → Prop} (hn : n < 6) (he : e ≤ n) (ht : t < 4) (hw : ∀ i, sq_pu ow0 n e t i < 4)
    (h : post (nI (sq_cn (fun i => decide (sq_pu ow0 n e t i = t)) (n + 1))) ((nI (n + 1)), 0, f_loadCount, f_orderCount, f_lateCount, f_strictCount, (sq_nA (sq_pu ow0 n e t)), (sq_nA (sq_pu kd0 n e k)), (sq_nA (sq_pu vr0 n e x)), (sq_nA (sq_pu vl0 n e v)), a_lateSet, a_strictSet, a_place, a_earlier)) :
    ∀ N i, i < N → e ≤ i → i ≤ n → wX_append_25 post (nI t) (nI k) (nI x) (nI v) (nI e) N (nI i) (nI n) f_explored f_loadCount f_orderCount f_lateCount f_strictCount (sq_nA (sq_ps ow0 n i)) (sq_nA (sq_ps kd0 n i)) (sq_nA (sq_ps vr0 n i)) (sq_nA (sq_ps vl0 n i)) a_lateSet a_strictSet a_place a_earlier := by
  intro N
  induction N with
  | zero => intro i h1; omega
  | succ N ih =>
    intro i h1 h2 h3
    refine pk_le i e (fun h4 => ?_) (fun h4 => ?_)
    · have ei : i = e := by omega
      subst ei
      refine ⟨pk_in i 6 (by omega), nm_r (sq_sto _ t (by omega)) ⟨pk_in i 6 (by omega), nm_r (sq_sto _ k (by omega)) ⟨pk_in i 6 (by omega), nm_r (sq_sto _ x (by omega)) ⟨pk_in i 6 (by omega), nm_r (sq_sto _ v (by omega)) (nm_r (nI_1 n) ?_)⟩⟩⟩⟩
      rw [sq_ps_e, sq_ps_e, sq_ps_e, sq_ps_e]
      exact sq_xIns (by omega) ht hw h
    · obtain ⟨j, rfl⟩ : ∃ j, i = j + 1 := ⟨i - 1, by omega⟩
      refine sq_xCopyW (a := j) (b := j + 1) (by omega) (by omega) (nI_pred j) rfl (nm_r (pk_m1 j) ?_)
      rw [sq_ps_s ow0 (by omega), sq_ps_s kd0 (by omega), sq_ps_s vr0 (by omega), sq_ps_s vl0 (by omega)]
      exact ih j (by omega) (by omega) (by omega)
theorem sq_xApp {t k x v e : Nat} {post : Int32 → SX → Prop} (hn : n < 6) (ht : t < 4) (hw : ∀ i, ow i < 4) (he : e ≤ n) (hlo : ∀ i, i < e → ow i ≤ t) (hhi : ∀ i, e ≤ i → i < n → t < ow i) (hw' : ∀ i, sq_pu ow n e t i < 4)
    (h : post (nI (sq_cn (fun i => decide (sq_pu ow n e t i = t)) (n + 1))) ((nI (n + 1)), 0, f_loadCount, f_orderCount, f_lateCount, f_strictCount, (sq_nA (sq_pu ow n e t)), (sq_nA (sq_pu kd n e k)), (sq_nA (sq_pu vr n e x)), (sq_nA (sq_pu vl n e v)), a_lateSet, a_strictSet, a_place, a_earlier)) :
    wpX_append post ((nI n), f_explored, f_loadCount, f_orderCount, f_lateCount, f_strictCount, (sq_nA ow), (sq_nA kd), (sq_nA vr), (sq_nA vl), a_lateSet, a_strictSet, a_place, a_earlier) (nI t) (nI k) (nI x) (nI v) := by
  refine pk_lt n 6 (fun _ => ?_) (fun h2 => by omega)
  refine sq_xEnd (by omega) ht hw he hlo hhi ?_
  refine Exists.intro (n + 1) ?_
  have := sq_xAppL (n := n) (f_explored := f_explored) ow kd vr vl hn he ht hw' h (n + 1) n (by omega) he (Nat.le_refl _)
  rw [sq_ps_0, sq_ps_0, sq_ps_0, sq_ps_0] at this
  exact this
theorem sq_xFull {t k x v : Int32} {post : Int32 → SX → Prop} (hn : n = 6) (h : post (-2) ((nI n), f_explored, f_loadCount, f_orderCount, f_lateCount, f_strictCount, (sq_nA ow), (sq_nA kd), (sq_nA vr), (sq_nA vl), a_lateSet, a_strictSet, a_place, a_earlier)) : wpX_append post ((nI n), f_explored, f_loadCount, f_orderCount, f_lateCount, f_strictCount, (sq_nA ow), (sq_nA kd), (sq_nA vr), (sq_nA vl), a_lateSet, a_strictSet, a_place, a_earlier) t k x v :=
  pk_lt n 6 (fun h2 => by omega) (fun _ => h)
theorem sq_xDropL {c d : Nat} (ow0 kd0 vr0 vl0 : Nat → Nat) {post : Int32 → SX → Prop} (hn : n ≤ 6) (hd : d < n)
    (h : post (nI c - 1) ((nI (n - 1)), 0, f_loadCount, f_orderCount, f_lateCount, f_strictCount, (sq_nA (sq_pd ow0 d (n - 1))), (sq_nA (sq_pd kd0 d (n - 1))), (sq_nA (sq_pd vr0 d (n - 1))), (sq_nA (sq_pd vl0 d (n - 1))), a_lateSet, a_strictSet, a_place, a_earlier)) :
    ∀ N i, n - i < N → d ≤ i → i < n → wX_drop_32 post (nI c) N (nI (i + 1)) (nI n) f_explored f_loadCount f_orderCount f_lateCount f_strictCount (sq_nA (sq_pd ow0 d i)) (sq_nA (sq_pd kd0 d i)) (sq_nA (sq_pd vr0 d i)) (sq_nA (sq_pd vl0 d i)) a_lateSet a_strictSet a_place a_earlier := by
  intro N
  induction N with
  | zero => intro i h1; omega
  | succ N ih =>
    intro i h1 h2 h3
    refine pk_le n (i + 1) (fun h4 => ?_) (fun h4 => ?_)
    · have ei : i = n - 1 := by omega
      subst ei
      have e1 : nI n - 1 = nI (n - 1) := pk_sub (a := n) (b := 1) (by omega)
      exact nm_r e1 h
    · refine sq_xCopyW (a := i + 1) (b := i) (by omega) (by omega) rfl (nI_pred i) (nm_r (nI_1 (i + 1)) ?_)
      rw [sq_pd_s ow0 h2, sq_pd_s kd0 h2, sq_pd_s vr0 h2, sq_pd_s vl0 h2]
      exact ih (i + 1) (by omega) (by omega) (by omega)
theorem sq_xDrop {t d : Nat} {post : Int32 → SX → Prop} (hn : n ≤ 6) (ht : t < 4) (hw : ∀ i, ow i < 4) (hd : d < n) (hdt : ow d = t) (hlo : ∀ i, i < d + 1 → ow i ≤ t) (hhi : ∀ i, d + 1 ≤ i → i < n → t < ow i)
    (h : post (nI (sq_cn (fun i => decide (ow i = t)) n) - 1) ((nI (n - 1)), 0, f_loadCount, f_orderCount, f_lateCount, f_strictCount, (sq_nA (sq_pd ow d (n - 1))), (sq_nA (sq_pd kd d (n - 1))), (sq_nA (sq_pd vr d (n - 1))), (sq_nA (sq_pd vl d (n - 1))), a_lateSet, a_strictSet, a_place, a_earlier)) :
    wpX_drop post ((nI n), f_explored, f_loadCount, f_orderCount, f_lateCount, f_strictCount, (sq_nA ow), (sq_nA kd), (sq_nA vr), (sq_nA vl), a_lateSet, a_strictSet, a_place, a_earlier) (nI t) := by
  have hc : 0 < sq_cn (fun i => decide (ow i = t)) n := by
    have := sq_cn_lo (p := fun i => decide (ow i = t)) (decide_eq_true hdt) hd
    omega
  have hc2 := sq_cn_le (fun i => decide (ow i = t)) n
  refine br_f (nI_pos (by omega)) (pk_le 4 t (fun h1 => by omega) (fun _ => ?_))
  refine br_f (by decide) ?_
  refine sq_xIns hn ht hw ?_
  refine br_f (nI_ne0 hc (by omega)) ?_
  refine sq_xEnd hn ht hw (e := d + 1) (by omega) hlo hhi ?_
  refine Exists.intro (n + 1) ?_
  have := sq_xDropL (n := n) (f_explored := f_explored) (d := d) ow kd vr vl hn hd h (n + 1) d (by omega) (Nat.le_refl _) hd
  rw [sq_pd_0, sq_pd_0, sq_pd_0, sq_pd_0] at this
  exact this
theorem sq_xDrop0 {t : Nat} {post : Int32 → SX → Prop} (hn : n ≤ 6) (ht : t < 4) (hw : ∀ i, ow i < 4) (hno : ∀ i, i < n → ow i ≠ t) (h : post (-4) ((nI n), f_explored, f_loadCount, f_orderCount, f_lateCount, f_strictCount, (sq_nA ow), (sq_nA kd), (sq_nA vr), (sq_nA vl), a_lateSet, a_strictSet, a_place, a_earlier)) : wpX_drop post ((nI n), f_explored, f_loadCount, f_orderCount, f_lateCount, f_strictCount, (sq_nA ow), (sq_nA kd), (sq_nA vr), (sq_nA vl), a_lateSet, a_strictSet, a_place, a_earlier) (nI t) := by
  refine br_f (nI_pos (by omega)) (pk_le 4 t (fun h1 => by omega) (fun _ => ?_))
  refine br_f (by decide) ?_
  refine sq_xIns hn ht hw ?_
  have : sq_cn (fun i => decide (ow i = t)) n = 0 := by
    rcases Nat.eq_zero_or_pos (sq_cn (fun i => decide (ow i = t)) n) with z | z
    · exact z
    · obtain ⟨i, hi, h2, _⟩ := sq_cn_at z
      exact absurd (of_decide_eq_true h2) (hno i hi)
  rw [this]
  exact br_t rfl h
end
