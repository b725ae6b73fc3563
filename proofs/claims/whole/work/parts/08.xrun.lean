/-! the component: places, the number of orders, what must come earlier, one order's outcome -/
section
variable {n : Nat} {ow kd vr vl : Nat → Nat} {f_explored f_loadCount f_orderCount f_lateCount f_strictCount : Int32} {a_lateSet a_strictSet a_place a_earlier : Nat → Int32}
theorem sq_xPlaces {post : SX → Prop} (hn : n ≤ 6) (hk3 : ∀ i, kd i < 3) (hv3 : ∀ i, vr i < 3) (h : ∀ p' : Nat → Int32, (∀ i, i < n → p' i = nI (2 * sq_sl kd vr i)) → post ((nI n), f_explored, (nI (sq_cn (sq_ll kd) n)), f_orderCount, f_lateCount, f_strictCount, (sq_nA ow), (sq_nA kd), (sq_nA vr), (sq_nA vl), a_lateSet, a_strictSet, p', a_earlier)) : wpX_decidePlaces post ((nI n), f_explored, f_loadCount, f_orderCount, f_lateCount, f_strictCount, (sq_nA ow), (sq_nA kd), (sq_nA vr), (sq_nA vl), a_lateSet, a_strictSet, a_place, a_earlier) := by
  have key : ∀ N i (p : Nat → Int32), n - i < N → i ≤ n → (∀ j, j < i → p j = nI (2 * sq_sl kd vr j)) → wX_decidePlaces_7 post (nI n) f_explored f_orderCount f_lateCount f_strictCount N (nI i) (nI (sq_cn (sq_ll kd) i)) (sq_nA ow) (sq_nA kd) (sq_nA vr) (sq_nA vl) a_lateSet a_strictSet p a_earlier := by
    intro N
    induction N with
    | zero => intro i p h1; omega
    | succ N ih =>
      intro i p h1 h2 hp
      have hki := hk3 i
      have hvi := hv3 i
      have hcl := sq_cn_le (sq_ll kd) i
      have step : ∀ x : Int32, x = nI (2 * sq_sl kd vr i) → ∀ j, j < i + 1 → upd p (nI i).toNatClampNeg x j = nI (2 * sq_sl kd vr j) := by
        intro x hx j hj
        rw [nI_clamp (by omega)]
        by_cases e : j = i
        · rw [e, pk_us, hx]
        · rw [pk_un e]; exact hp j (by omega)
      refine pk_le n i (fun h3 => ?_) (fun h3 => ⟨pk_in i 6 (by omega), pk_eq (kd i) 1 (fun h4 => ?_) (fun h4 => ?_) (sq_at kd (by omega)) rfl (by omega) (by omega)⟩)
      · have ei : i = n := by omega
        subst ei
        exact h p hp
      · refine ⟨pk_in i 6 (by omega), nm_e (nm_r (nI_1 _) (nm_r (nI_1 i) ?_))⟩
        have h5 := ih (i + 1) (upd p (nI i).toNatClampNeg (2 * nI (sq_cn (sq_ll kd) i))) (by omega) (by omega) (step _ (by
          have : sq_sl kd vr i = sq_cn (sq_ll kd) i := if_pos h4
          rw [this]; exact pk_mul 2 _))
        rw [sq_cn_t (p := sq_ll kd) (decide_eq_true h4)] at h5
        exact h5
      · refine ⟨pk_in i 6 (by omega), pk_in i 6 (by omega), nm_e (nm_r (nI_1 i) ?_)⟩
        have h5 := ih (i + 1) (upd p (nI i).toNatClampNeg (12 + (2 * (sq_nA vr (nI i).toNatClampNeg)))) (by omega) (by omega) (step _ (by
          have : sq_sl kd vr i = 6 + vr i := if_neg h4
          rw [this, sq_at vr (by omega), show 2 * (6 + vr i) = 12 + 2 * vr i from by omega]
          have h6 : (2 : Int32) * nI (vr i) = nI (2 * vr i) := pk_mul 2 _
          rw [h6]
          exact nI_add 12 _))
        rw [sq_cn_f (p := sq_ll kd) (decide_eq_false h4)] at h5
        exact h5
  exact Exists.intro (n + 1) (key (n + 1) 0 a_place (by omega) (by omega) (fun j hj => by omega))
theorem sq_xCount {post : SX → Prop} (hn : n ≤ 6) (h : post ((nI n), f_explored, f_loadCount, (nI (sq_fac n)), f_lateCount, f_strictCount, (sq_nA ow), (sq_nA kd), (sq_nA vr), (sq_nA vl), a_lateSet, a_strictSet, a_place, a_earlier)) : wpX_countOrders post ((nI n), f_explored, f_loadCount, f_orderCount, f_lateCount, f_strictCount, (sq_nA ow), (sq_nA kd), (sq_nA vr), (sq_nA vl), a_lateSet, a_strictSet, a_place, a_earlier) := by
  have key : ∀ N i, n + 1 - i < N → 1 ≤ i → (i = 1 ∨ i ≤ n) → wX_countOrders_7 post (nI n) f_explored f_loadCount f_lateCount f_strictCount (sq_nA ow) (sq_nA kd) (sq_nA vr) (sq_nA vl) a_lateSet a_strictSet a_place a_earlier N (nI (i + 1)) (nI (sq_fac i)) := by
    intro N
    induction N with
    | zero => intro i h1; omega
    | succ N ih =>
      intro i h1 h2 hi
      refine pk_lt n (i + 1) (fun h3 => ?_) (fun h3 => ?_)
      · have e : sq_fac i = sq_fac n := by
          by_cases e : n = 0
          · have : i = 1 := by omega
            rw [this, e]; decide
          · have : i = n := by omega
            rw [this]
        rw [e]; exact h
      · refine nm_r ?_ (nm_r (nI_1 (i + 1)) (ih (i + 1) (by omega) (by omega) (Or.inr h3)))
        rw [pk_mul]
        show nI (sq_fac i * (i + 1)) = nI ((i + 1) * sq_fac i)
        rw [Nat.mul_comm]
  exact Exists.intro (n + 2) (key (n + 2) 1 (by omega) (by omega) (Or.inl rfl))
theorem sq_xStays {F : Int32} {i j : Nat} {post : Int32 → Prop} (hij : i < j) (hj : j < 6) (hk3 : ∀ i, kd i < 3) (h1 : (kd i ≠ 0 ∨ kd j ≠ 1 ∨ ∃ b, i ≤ b ∧ b < j ∧ bt F b = true) → post 1) (h0 : ¬ (kd i ≠ 0 ∨ kd j ≠ 1 ∨ ∃ b, i ≤ b ∧ b < j ∧ bt F b = true) → post 0) : wpX_staysBefore post ((nI n), f_explored, f_loadCount, f_orderCount, f_lateCount, f_strictCount, (sq_nA ow), (sq_nA kd), (sq_nA vr), (sq_nA vl), a_lateSet, a_strictSet, a_place, a_earlier) (nI i) (nI j) F := by
  have hki := hk3 i
  have hkj := hk3 j
  refine nm_e ⟨pk_in i 6 (by omega), pk_eq (kd i) 0 (fun c0 => ⟨pk_in j 6 (by omega), pk_eq (kd j) 1 (fun c1 => ?_) (fun c1 => h1 (Or.inr (Or.inl c1))) (sq_at kd (by omega)) rfl (by omega) (by omega)⟩) (fun c0 => h1 (Or.inl c0)) (sq_at kd (by omega)) rfl (by omega) (by omega)⟩
  refine ek_if (sq_fen F hij hj) (fun hz => h0 ?_) (fun hz => h1 ?_)
  · rintro (y | y | ⟨b, y1, y2, y3⟩)
    · exact y c0
    · exact y c1
    · rw [hz b y1 y2] at y3; exact absurd y3 (by decide)
  · right; right
    refine Classical.byContradiction fun hno => hz fun b y1 y2 => ?_
    cases hb : bt F b
    · rfl
    · exact absurd ⟨b, y1, y2, hb⟩ hno
theorem sq_xEarI {F : Int32} {j : Nat} {post : SX → Prop} {J2 : Int32 → (Nat → Int32) → (Nat → Int32) → (Nat → Int32) → (Nat → Int32) → (Nat → Int32) → (Nat → Int32) → (Nat → Int32) → (Nat → Int32) → Prop} (hn : n ≤ 6) (hj : j < n) (hw : ∀ i, ow i < 4) (hk3 : ∀ i, kd i < 3) (A0 : Nat → Int32)
    (hJ : ∀ A' : Nat → Int32, (∀ l, l ≠ j → A' l = A0 l) → (∀ b, b < 32 → (bt (A' j) b = true ↔ sq_E ow kd (bt F) b j)) → J2 (nI (j + 1)) (sq_nA ow) (sq_nA kd) (sq_nA vr) (sq_nA vl) a_lateSet a_strictSet a_place A') :
    ∀ N i (A : Nat → Int32), j - i < N → i ≤ j → (∀ l, l ≠ j → A l = A0 l) → (∀ b, b < 32 → (bt (A j) b = true ↔ b < i ∧ sq_E ow kd (bt F) b j)) → wX_decideEarlier_19 post J2 F (nI j) (nI n) f_explored f_loadCount f_orderCount f_lateCount f_strictCount N (nI i) (sq_nA ow) (sq_nA kd) (sq_nA vr) (sq_nA vl) a_lateSet a_strictSet a_place A := by
  intro N
  induction N with
  | zero => intro i A h1; omega
  | succ N ih =>
    intro i A h1 h2 hA hb
    have hwi := hw i
    have hwj := hw j
    refine pk_le j i (fun h3 => nm_r (nI_1 j) (hJ A hA (fun b hb32 => ?_))) (fun h3 => ⟨pk_in i 6 (by omega), pk_in j 6 (by omega), pk_eq (ow i) (ow j) (fun h4 => ?_) (fun h4 => nm_r (nI_1 i) (ih (i + 1) A (by omega) (by omega) hA (fun b hb32 => ?_))) (sq_at ow (by omega)) (sq_at ow (by omega)) (by omega) (by omega)⟩)
    · rw [hb b hb32]
      exact ⟨fun z => z.2, fun z => ⟨by have := z.1; omega, z⟩⟩
    · refine sq_xStays (by omega) (by omega) hk3 (fun hc => br_f (by decide) ⟨pk_in j 6 (by omega), pk_in j 6 (by omega), nm_e (nm_r (nI_1 i) (ih (i + 1) _ (by omega) (by omega) (fun l hl => ?_) (fun b hb32 => ?_)))⟩) (fun hc => br_t rfl (nm_r (nI_1 i) (ih (i + 1) A (by omega) (by omega) hA (fun b hb32 => ?_))))
      · rw [nI_clamp (by omega), pk_un hl]; exact hA l hl
      · rw [nI_clamp (by omega), pk_us, sq_set _ (by omega) hb32, Bool.or_eq_true, hb b hb32, decide_eq_true_eq]
        constructor
        · rintro (z | z)
          · exact ⟨by omega, z.2⟩
          · rw [z]; exact ⟨by omega, h3, h4, hc⟩
        · rintro ⟨z1, z2⟩
          by_cases e : b = i
          · right; exact e
          · left; exact ⟨by omega, z2⟩
      · rw [hb b hb32]
        constructor
        · rintro ⟨z1, z2⟩; exact ⟨by omega, z2⟩
        · rintro ⟨z1, z2⟩
          refine ⟨?_, z2⟩
          by_cases e : b = i
          · rw [e] at z2; exact absurd z2.2.2 hc
          · omega
    · rw [hb b hb32]
      constructor
      · rintro ⟨z1, z2⟩; exact ⟨by omega, z2⟩
      · rintro ⟨z1, z2⟩
        refine ⟨?_, z2⟩
        by_cases e : b = i
        · rw [e] at z2; exact absurd z2.2.1 h4
        · omega
theorem sq_xEar {F : Int32} {post : SX → Prop} (hn : n ≤ 6) (hw : ∀ i, ow i < 4) (hk3 : ∀ i, kd i < 3)
    (h : ∀ A : Nat → Int32, (∀ j, j < n → ∀ b, b < 32 → (bt (A j) b = true ↔ sq_E ow kd (bt F) b j)) → post ((nI n), f_explored, f_loadCount, f_orderCount, f_lateCount, f_strictCount, (sq_nA ow), (sq_nA kd), (sq_nA vr), (sq_nA vl), a_lateSet, a_strictSet, a_place, A)) : wpX_decideEarlier post ((nI n), f_explored, f_loadCount, f_orderCount, f_lateCount, f_strictCount, (sq_nA ow), (sq_nA kd), (sq_nA vr), (sq_nA vl), a_lateSet, a_strictSet, a_place, a_earlier) F := by
  have key : ∀ N j (A : Nat → Int32), n - j < N → j ≤ n → (∀ l, l < j → ∀ b, b < 32 → (bt (A l) b = true ↔ sq_E ow kd (bt F) b l)) → wX_decideEarlier_2 post F (nI n) f_explored f_loadCount f_orderCount f_lateCount f_strictCount N (nI j) (sq_nA ow) (sq_nA kd) (sq_nA vr) (sq_nA vl) a_lateSet a_strictSet a_place A := by
    intro N
    induction N with
    | zero => intro j A h1; omega
    | succ N ih =>
      intro j A h1 h2 hA
      refine pk_le n j (fun h3 => ?_) (fun h3 => ⟨pk_in j 6 (by omega), nm_e (Exists.intro (j + 1) ?_)⟩)
      · have ej : j = n := by omega
        subst ej
        exact h A hA
      · refine sq_xEarI hn h3 hw hk3 (upd A (nI j).toNatClampNeg 0) (fun A' g1 g2 => ih (j + 1) A' (by omega) (by omega) (fun l hl => ?_)) (j + 1) 0 _ (by omega) (by omega) (fun l _ => rfl) (fun b hb32 => ?_)
        · by_cases e : l = j
          · rw [e]; exact g2
          · rw [g1 l e, nI_clamp (by omega), pk_un e]; exact hA l (by omega)
        · rw [nI_clamp (by omega), pk_us, b_0]
          exact ⟨fun z => absurd z (by decide), fun z => absurd z.1 (by omega)⟩
  exact Exists.intro (n + 1) (key (n + 1) 0 a_earlier (by omega) (by omega) (fun l hl => by omega))
theorem sq_xPick {x : Int32} {d : Nat → Bool} {i : Nat} {post : Int32 → Prop} (hn : n ≤ 6) (hx : ∀ b, b < 32 → bt x b = d b) (hi : i < n) (hd : d i = false) (h : post (nI i)) : wpX_pickUndone post ((nI n), f_explored, f_loadCount, f_orderCount, f_lateCount, f_strictCount, (sq_nA ow), (sq_nA kd), (sq_nA vr), (sq_nA vl), a_lateSet, a_strictSet, a_place, a_earlier) x (nI (sq_cn (fun b => !d b) i)) := by
  have key : ∀ N l c, i - l < N → l ≤ i → c + sq_cn (fun b => !d b) l = sq_cn (fun b => !d b) i → wX_pickUndone_5 post x (nI n) f_explored f_loadCount f_orderCount f_lateCount f_strictCount (sq_nA ow) (sq_nA kd) (sq_nA vr) (sq_nA vl) a_lateSet a_strictSet a_place a_earlier N (nI c) (nI l) := by
    intro N
    induction N with
    | zero => intro l c h1; omega
    | succ N ih =>
      intro l c h1 h2 hc
      have hci := sq_cn_le (fun b => !d b) i
      refine pk_le n l (fun h3 => by omega) (fun h3 => ek_if (sq_tst x (k := l) (by omega)) (fun h4 => ?_) (fun h4 => ?_))
      · rw [hx l (by omega)] at h4
        refine pk_eq c 0 (fun c0 => ?_) (fun c0 => ?_)
        · have : l = i := by
            rcases Nat.lt_or_ge l i with z | z
            · have := sq_cn_lo (p := fun b => !d b) (i := l) (j := i) (by show (!d l) = true; rw [h4]; rfl) z
              omega
            · omega
          rw [this]; exact h
        · obtain ⟨c', rfl⟩ : ∃ c', c = c' + 1 := ⟨c - 1, by omega⟩
          have hl : l ≠ i := fun e => by rw [e] at hc; omega
          refine nm_r (pk_m1 c') (nm_r (nI_1 l) (ih (l + 1) c' (by omega) (by omega) ?_))
          rw [sq_cn_t (p := fun b => !d b) (by show (!d l) = true; rw [h4]; rfl)]
          omega
      · have h5 : d l = true := by
          rw [hx l (by omega)] at h4
          cases hh : d l
          · exact absurd hh h4
          · rfl
        have hl : l ≠ i := fun e => by rw [e, hd] at h5; exact absurd h5 (by decide)
        refine nm_r (nI_1 l) (ih (l + 1) c (by omega) (by omega) ?_)
        rw [sq_cn_f (p := fun b => !d b) (by show (!d l) = false; rw [h5]; rfl)]
        exact hc
  exact Exists.intro (i + 1) (key (i + 1) 0 _ (by omega) (by omega) rfl)
theorem sq_xFound {x : Int32} {d : Nat → Bool} {j : Nat} {f : Nat → Nat} {post : Int32 → Prop} (hn : n ≤ 6) (hw : ∀ i, ow i < 4) (hk3 : ∀ i, kd i < 3) (hv3 : ∀ i, vr i < 3) (hf : ∀ d, f d < 4) (hx : ∀ b, b < 32 → bt x b = d b) (hj : j < n) (h : post (nI (sq_fb ow kd vr vl d j (f (6 + vr j)) j))) : wpX_foundBy post ((nI n), f_explored, f_loadCount, f_orderCount, f_lateCount, f_strictCount, (sq_nA ow), (sq_nA kd), (sq_nA vr), (sq_nA vl), a_lateSet, a_strictSet, a_place, a_earlier) (nI j) x (nI (sq_sm f 9)) := by
  have hvj := hv3 j
  have hwj := hw j
  have key : ∀ N i, j - i < N → i ≤ j → wX_foundBy_24 post (nI j) x (nI n) f_explored f_loadCount f_orderCount f_lateCount f_strictCount (sq_nA ow) (sq_nA kd) (sq_nA vr) (sq_nA vl) a_lateSet a_strictSet a_place a_earlier N (nI (sq_fb ow kd vr vl d j (f (6 + vr j)) i)) (nI i) := by
    intro N
    induction N with
    | zero => intro i h1; omega
    | succ N ih =>
      intro i h1 h2
      have hwi := hw i
      have hki := hk3 i
      have hvi := hv3 i
      have hno : ¬ (ow i = ow j ∧ kd i = 0 ∧ vr i = vr j ∧ d i = false) → i < j → wX_foundBy_24 post (nI j) x (nI n) f_explored f_loadCount f_orderCount f_lateCount f_strictCount (sq_nA ow) (sq_nA kd) (sq_nA vr) (sq_nA vl) a_lateSet a_strictSet a_place a_earlier N (nI (sq_fb ow kd vr vl d j (f (6 + vr j)) i)) (nI (i + 1)) := by
        intro c hc
        have := ih (i + 1) (by omega) (by omega)
        rw [sq_fb_s, if_neg c] at this
        exact this
      refine pk_le j i (fun h3 => ?_) (fun h3 => ⟨pk_in i 6 (by omega), pk_in j 6 (by omega), pk_eq (ow i) (ow j) (fun c1 => ⟨pk_in i 6 (by omega), pk_eq (kd i) 0 (fun c2 => ⟨pk_in i 6 (by omega), pk_in j 6 (by omega), pk_eq (vr i) (vr j) (fun c3 => ek_if (sq_tst x (k := i) (by omega)) (fun c4 => ⟨pk_in i 6 (by omega), nm_r (sq_at vl (by omega)) (nm_r (nI_1 i) ?_)⟩) (fun c4 => nm_r (nI_1 i) (hno ?_ h3))) (fun c3 => nm_r (nI_1 i) (hno (fun z => c3 z.2.2.1) h3)) (sq_at vr (by omega)) (sq_at vr (by omega)) (by omega) (by omega)⟩) (fun c2 => nm_r (nI_1 i) (hno (fun z => c2 z.2.1) h3)) (sq_at kd (by omega)) rfl (by omega) (by omega)⟩) (fun c1 => nm_r (nI_1 i) (hno (fun z => c1 z.1) h3)) (sq_at ow (by omega)) (sq_at ow (by omega)) (by omega) (by omega)⟩)
      · have : i = j := by omega
        rw [this]; exact h
      · rw [hx i (by omega)] at c4
        have := ih (i + 1) (by omega) (by omega)
        rw [sq_fb_s, if_pos ⟨c1, c2, c3, c4⟩] at this
        exact this
      · rw [hx i (by omega)] at c4
        exact fun z => c4 z.2.2.2
  refine ⟨pk_in j 6 (by omega), Exists.intro (j + 1) ?_⟩
  have e1 : (12 : Int32) + 2 * sq_nA vr (nI j).toNatClampNeg = nI (2 * (6 + vr j)) := by
    rw [sq_at vr (by omega), show 2 * (6 + vr j) = 12 + 2 * vr j from by omega]
    have h6 : (2 : Int32) * nI (vr j) = nI (2 * vr j) := pk_mul 2 _
    rw [h6]
    exact nI_add 12 _
  rw [e1, sq_get hf (by omega)]
  exact key (j + 1) 0 (by omega) (by omega)
theorem sq_xOut {F : Int32} {m : Nat} {q : Nat → Nat} {post : Int32 → Prop} (hW : sq_W n ow kd vr vl) (hm : m < 2 ^ 31) (hq : sq_cd n m q) (hE : ∀ j, j < n → ∀ b, b < 32 → (bt (a_earlier j) b = true ↔ sq_E ow kd (bt F) b j)) (hP : ∀ i, i < n → a_place i = nI (2 * sq_sl kd vr i))
    (h1 : sq_va n ow kd (bt F) q → post (nI (sq_sm (sq_fx ow kd vr vl q n) 9))) (h0 : ¬ sq_va n ow kd (bt F) q → post (-4)) : wpX_outcomeOf post ((nI n), f_explored, f_loadCount, f_orderCount, f_lateCount, f_strictCount, (sq_nA ow), (sq_nA kd), (sq_nA vr), (sq_nA vl), a_lateSet, a_strictSet, a_place, a_earlier) (nI m) := by
  obtain ⟨hn, hw, hk3, hv3, hl4, _⟩ := hW
  have hf4 := sq_fx4 (ow := ow) (kd := kd) (vr := vr) (vl := vl) hl4 q
  have key : ∀ N t (x : Int32), n - t < N → t ≤ n → (∀ b, b < 32 → bt x b = sq_dn q t b) → (∀ s, s < t → ∀ i, sq_E ow kd (bt F) i (q s) → sq_dn q s i = true) → wX_outcomeOf_13 post (nI n) f_explored f_loadCount f_orderCount f_lateCount f_strictCount (sq_nA ow) (sq_nA kd) (sq_nA vr) (sq_nA vl) a_lateSet a_strictSet a_place a_earlier N (nI (sq_rs n m t)) x (nI (sq_sm (sq_fx ow kd vr vl q t) 9)) (nI (n - t)) := by
    intro N
    induction N with
    | zero => intro t x h1; omega
    | succ N ih =>
      intro t x g1 g2 hx hv
      refine pk_le (n - t) 0 (fun g3 => ?_) (fun g3 => ?_)
      · have et : t = n := by omega
        subst et
        exact h1 hv
      · obtain ⟨q1, q2, q3⟩ := hq t (by omega)
        have hrs := sq_rs_le n m t
        have hne : ¬ nI (n - t) = 0 := nI_ne0 (by omega) (by omega)
        have hrem : nI (sq_rs n m t) - nI (sq_rs n m t) / nI (n - t) * nI (n - t) = nI (sq_cn (fun b => !sq_dn q t b) (q t)) := by
          rw [pk_rem (by omega) (by omega) (by omega), ← q3]
          rfl
        have hdiv : nI (sq_rs n m t) / nI (n - t) = nI (sq_rs n m (t + 1)) := by
          rw [pk_div (by omega) (by omega) (by omega)]
          rfl
        refine ⟨hne, ?_⟩
        rw [hrem]
        refine sq_xPick hn hx q1 q2 ⟨hne, nm_r hdiv ⟨pk_in (q t) 6 (by omega), ?_⟩⟩
        have hear : ((a_earlier (nI (q t)).toNatClampNeg &&& (x ^^^ (-1))) = 0) ↔ ∀ i, sq_E ow kd (bt F) i (q t) → sq_dn q t i = true := by
          rw [nI_clamp (by omega), sq_subm]
          constructor
          · intro z i hi
            have hi32 : i < 32 := by have := hi.1; omega
            rw [← hx i hi32]
            exact z i hi32 ((hE (q t) q1 i hi32).mpr hi)
          · intro z b hb hbt
            rw [hx b hb]
            exact z b ((hE (q t) q1 b hb).mp hbt)
        have hx' : ∀ b, b < 32 → bt (x ||| ((1 : Int32) <<< (nI (q t) &&& 31))) b = sq_dn q (t + 1) b := by
          intro b hb
          rw [sq_set x (by omega) hb, hx b hb]
          rfl
        have hm1 : nI (n - t) + (-1) = nI (n - (t + 1)) := by
          rw [show n - t = (n - (t + 1)) + 1 from by omega, pk_m1]
        have hk := hk3 (q t)
        have hvq := hv3 (q t)
        have h9 : sq_sl kd vr (q t) < 9 := by
          show (if kd (q t) = 1 then sq_cn (sq_ll kd) (q t) else 6 + vr (q t)) < 9
          have := sq_cn_le (sq_ll kd) (q t)
          split <;> omega
        refine ek_if hear (fun hok => ?_) (fun hno => h0 (fun z => hno (z t (by omega))))
        have hv' : ∀ s, s < t + 1 → ∀ i, sq_E ow kd (bt F) i (q s) → sq_dn q s i = true := by
          intro s hs
          by_cases e : s = t
          · rw [e]; exact hok
          · exact hv s (by omega)
        have hgo := ih (t + 1) _ (by omega) (by omega) hx' hv'
        rw [sq_fx_s] at hgo
        have hput : ∀ v, v < 4 → (nI (sq_sm (sq_fx ow kd vr vl q t) 9) &&& (((3 : Int32) <<< ((a_place (nI (q t)).toNatClampNeg) &&& 31)) ^^^ (-1))) ||| (nI v <<< ((a_place (nI (q t)).toNatClampNeg) &&& 31)) = nI (sq_sm (sq_up (sq_fx ow kd vr vl q t) (sq_sl kd vr (q t)) v) 9) := by
          intro v hv4
          rw [nI_clamp (by omega), hP (q t) q1]
          exact sq_put (hf4 t) h9 hv4
        refine ⟨pk_in (q t) 6 (by omega), pk_eq (kd (q t)) 2 (fun c2 => ?_) (fun c2 => ⟨pk_in (q t) 6 (by omega), pk_eq (kd (q t)) 0 (fun c0 => ?_) (fun c0 => ?_) (sq_at kd (by omega)) rfl (by omega) (by omega)⟩) (sq_at kd (by omega)) rfl (by omega) (by omega)⟩
        · rw [if_pos c2] at hgo
          exact nm_e (nm_r hm1 hgo)
        · rw [if_neg c2, if_pos c0] at hgo
          refine ⟨pk_in (q t) 6 (by omega), pk_in (q t) 6 (by omega), pk_in (q t) 6 (by omega), nm_r ?_ (nm_e (nm_r hm1 hgo))⟩
          rw [sq_at vl (by omega)]
          exact hput _ (hl4 _)
        · rw [if_neg c2, if_neg c0] at hgo
          refine sq_xFound hn hw hk3 hv3 (hf4 t) hx q1 ?_
          exact ⟨pk_in (q t) 6 (by omega), pk_in (q t) 6 (by omega), nm_r (hput _ (sq_fb4 hl4 _ _ (hf4 t _) _)) (nm_e (nm_r hm1 hgo))⟩
  have h00 : nI (sq_sm (sq_fx ow kd vr vl q 0) 9) = 0 := by
    have : sq_sm (sq_fx ow kd vr vl q 0) 9 = 0 := by
      have : ∀ k, sq_sm (fun _ => 0) k = 0 := by
        intro k
        induction k with
        | zero => rfl
        | succ k ih => rw [sq_sm_s, ih]; omega
      exact this 9
    rw [this]; rfl
  have := key (n + 1) 0 0 (by omega) (by omega) (fun b _ => b_0 b) (fun s hs => by omega)
  rw [h00] at this
  exact Exists.intro (n + 1) this
end
