/-! the component: what the questions walk over -/
def sq_va1 (o x : Int32) : Int32 := (o >>> (x &&& 31)) &&& 3
def sq_vs (f : Nat → Nat) (x : Int32) : Nat → Int32
  | 0 => 0
  | i + 1 => sq_vs f x i ||| ((1 : Int32) <<< (sq_va1 (nI (f i)) x &&& 31))
theorem sq_vs_ext {f g : Nat → Nat} {x : Int32} : ∀ {c : Nat}, (∀ i, i < c → f i = g i) → sq_vs f x c = sq_vs g x c := by
  intro c
  induction c with
  | zero => intro _; rfl
  | succ c ih =>
    intro h
    show sq_vs f x c ||| _ = sq_vs g x c ||| _
    rw [ih (fun i hi => h i (by omega)), h c (by omega)]
/-- the first member of the list that Q doesn't have, or NONE -/
def sq_sup (f : Nat → Nat) (c : Nat) (Q : Nat → Prop) (r : Int32) : Prop := (r = -4 ∧ ∀ i, i < c → Q (f i)) ∨ ∃ i, i < c ∧ r = nI (f i) ∧ ¬ Q (f i) ∧ ∀ j, j < i → Q (f j)
theorem sq_sup_uniq {f g : Nat → Nat} {c : Nat} {Q Q' : Nat → Prop} {r r' : Int32} (hfg : ∀ i, i < c → f i = g i) (hQ : ∀ o, Q o ↔ Q' o) (h : sq_sup f c Q r) (h' : sq_sup g c Q' r') : r' = r := by
  rcases h with ⟨e, h⟩ | ⟨i, hi, e, h1, h2⟩
  · rcases h' with ⟨e', _⟩ | ⟨j, hj, _, h3, _⟩
    · rw [e, e']
    · exact absurd ((hQ _).mp (hfg j hj ▸ h j hj)) h3
  · rcases h' with ⟨_, h'⟩ | ⟨j, hj, e', h3, h4⟩
    · exact absurd ((hQ _).mpr (hfg i hi ▸ h' i hi)) h1
    · rcases Nat.lt_trichotomy i j with z | z | z
      · exact absurd ((hQ _).mpr (hfg i hi ▸ h4 i z)) h1
      · rw [e, e', ← z, hfg i hi]
      · exact absurd ((hQ _).mp (hfg j hj ▸ h2 j z)) h3
section
variable {n : Nat} {ow kd vr vl : Nat → Nat} {f_explored f_loadCount f_orderCount f_lateCount f_strictCount : Int32} {a_lateSet a_strictSet a_place a_earlier : Nat → Int32}
theorem sq_xSur {la ss : Nat → Nat} {L S : Nat} {Q : Nat → Prop} {post : Int32 → SX → Prop} (hL : L ≤ 720) (hS : S ≤ 720) (hla : ∀ i, i < L → la i < 262144) (hQ : ∀ o, Q o → o < 262144) (hSS : sq_SS ss S Q) (h : ∀ r, sq_sup la L Q r → post r ((nI n), f_explored, f_loadCount, f_orderCount, (nI L), (nI S), (sq_nA ow), (sq_nA kd), (sq_nA vr), (sq_nA vl), (sq_nA la), (sq_nA ss), a_place, a_earlier)) : ∃ N, wX_surprise_6 post (nI n) f_explored f_loadCount f_orderCount (nI L) (nI S) (sq_nA ow) (sq_nA kd) (sq_nA vr) (sq_nA vl) (sq_nA la) (sq_nA ss) a_place a_earlier N 0 := by
  have hss : ∀ i, i < S → ss i < 262144 := fun i hi => hQ _ ((hSS.2 _).mpr ⟨i, hi, rfl⟩)
  have key : ∀ N i, L - i < N → i ≤ L → (∀ j, j < i → Q (la j)) → wX_surprise_6 post (nI n) f_explored f_loadCount f_orderCount (nI L) (nI S) (sq_nA ow) (sq_nA kd) (sq_nA vr) (sq_nA vl) (sq_nA la) (sq_nA ss) a_place a_earlier N (nI i) := by
    intro N
    induction N with
    | zero => intro i g; omega
    | succ N ih =>
      intro i g1 g2 hi
      refine pk_le L i (fun g3 => h _ (Or.inl ⟨rfl, fun j hj => hi j (by omega)⟩)) (fun g3 => ⟨pk_in i 720 (by omega), ?_⟩)
      have hli := hla i g3
      have hmem : (∃ k, k < S ∧ nI (ss k) = sq_nA la (nI i).toNatClampNeg) ↔ Q (la i) := by
        rw [sq_at la (by omega)]
        constructor
        · rintro ⟨k, hk, e⟩
          have := hss k hk
          rw [nI_eq (by omega) (by omega)] at e
          exact (hSS.2 _).mpr ⟨k, hk, e⟩
        · intro z
          obtain ⟨k, hk, e⟩ := (hSS.2 _).mp z
          exact ⟨k, hk, by rw [e]⟩
      refine sq_xHas_strictSet hS hss hSS.1 (fun z => br_f (by decide) (nm_r (nI_1 i) (ih (i + 1) (by omega) (by omega) (fun j hj => ?_)))) (fun z => br_t rfl ⟨pk_in i 720 (by omega), ?_⟩)
      · by_cases e : j = i
        · rw [e]; exact hmem.mp z
        · exact hi j (by omega)
      · rw [sq_at la (by omega)]
        exact h _ (Or.inr ⟨i, g3, rfl, fun w => z (hmem.mpr w), hi⟩)
  exact ⟨L + 1, key (L + 1) 0 (by omega) (by omega) (fun j hj => by omega)⟩
theorem sq_xVals {la : Nat → Nat} {L : Nat} {x : Int32} {post : Int32 → Prop} (hL : L ≤ 720) (h : post (sq_vs la x L)) : wpX_valuesAt post ((nI n), f_explored, f_loadCount, f_orderCount, (nI L), f_strictCount, (sq_nA ow), (sq_nA kd), (sq_nA vr), (sq_nA vl), (sq_nA la), a_strictSet, a_place, a_earlier) x := by
  have key : ∀ N i, L - i < N → i ≤ L → wX_valuesAt_4 post x (nI n) f_explored f_loadCount f_orderCount (nI L) f_strictCount (sq_nA ow) (sq_nA kd) (sq_nA vr) (sq_nA vl) (sq_nA la) a_strictSet a_place a_earlier N (sq_vs la x i) (nI i) := by
    intro N
    induction N with
    | zero => intro i g; omega
    | succ N ih =>
      intro i g1 g2
      refine pk_le L i (fun g3 => ?_) (fun g3 => ⟨pk_in i 720 (by omega), nm_r (e' := sq_vs la x (i + 1)) ?_ (nm_r (nI_1 i) (ih (i + 1) (by omega) (by omega)))⟩)
      · have : i = L := by omega
        rw [← this] at h
        exact h
      · rw [sq_at la (by omega)]
        rfl
  exact Exists.intro (L + 1) (key (L + 1) 0 (by omega) (by omega))
theorem sq_xImp {la : Nat → Nat} {L : Nat} {v w x y : Int32} {post : Int32 → SX → Prop} (hL : L ≤ 720) (h1 : (∀ i, i < L → sq_va1 (nI (la i)) x = v → sq_va1 (nI (la i)) y = w) → post 1 ((nI n), f_explored, f_loadCount, f_orderCount, (nI L), f_strictCount, (sq_nA ow), (sq_nA kd), (sq_nA vr), (sq_nA vl), (sq_nA la), a_strictSet, a_place, a_earlier)) (h0 : (¬ ∀ i, i < L → sq_va1 (nI (la i)) x = v → sq_va1 (nI (la i)) y = w) → post 0 ((nI n), f_explored, f_loadCount, f_orderCount, (nI L), f_strictCount, (sq_nA ow), (sq_nA kd), (sq_nA vr), (sq_nA vl), (sq_nA la), a_strictSet, a_place, a_earlier)) : ∃ N, wX_implies_39 post v w x y (nI n) f_explored f_loadCount f_orderCount (nI L) f_strictCount (sq_nA ow) (sq_nA kd) (sq_nA vr) (sq_nA vl) (sq_nA la) a_strictSet a_place a_earlier N 0 := by
  have key : ∀ N i, L - i < N → i ≤ L → (∀ j, j < i → sq_va1 (nI (la j)) x = v → sq_va1 (nI (la j)) y = w) → wX_implies_39 post v w x y (nI n) f_explored f_loadCount f_orderCount (nI L) f_strictCount (sq_nA ow) (sq_nA kd) (sq_nA vr) (sq_nA vl) (sq_nA la) a_strictSet a_place a_earlier N (nI i) := by
    intro N
    induction N with
    | zero => intro i g; omega
    | succ N ih =>
      intro i g1 g2 hi
      have nxt : (sq_va1 (nI (la i)) x = v → sq_va1 (nI (la i)) y = w) → i < L → wX_implies_39 post v w x y (nI n) f_explored f_loadCount f_orderCount (nI L) f_strictCount (sq_nA ow) (sq_nA kd) (sq_nA vr) (sq_nA vl) (sq_nA la) a_strictSet a_place a_earlier N (nI (i + 1)) := by
        intro hg hiL
        refine ih (i + 1) (by omega) (by omega) (fun j hj => ?_)
        by_cases e : j = i
        · rw [e]; exact hg
        · exact hi j (by omega)
      have ea : i < L → sq_nA la (nI i).toNatClampNeg = nI (la i) := fun g => sq_at la (by omega)
      refine pk_le L i (fun g3 => h1 (fun j hj => hi j (by omega))) (fun g3 => ⟨pk_in i 720 (by omega), ?_⟩)
      rw [ea g3]
      refine br_c (fun c1 => ⟨pk_in i 720 (by omega), ?_⟩) (fun c1 => nm_r (nI_1 i) (nxt (fun z => absurd z c1) g3))
      exact br_c (fun c2 => nm_r (nI_1 i) (nxt (fun _ => c2) g3)) (fun c2 => h0 (fun z => c2 (z i g3 c1)))
  exact ⟨L + 1, key (L + 1) 0 (by omega) (by omega) (fun j hj => by omega)⟩
theorem sq_xBits {x : Int32} {post : Int32 → Prop} (h : post (nI (sq_cn (bt x) 6))) : wpX_bitCount post ((nI n), f_explored, f_loadCount, f_orderCount, f_lateCount, f_strictCount, (sq_nA ow), (sq_nA kd), (sq_nA vr), (sq_nA vl), a_lateSet, a_strictSet, a_place, a_earlier) x := by
  have key : ∀ N i, 6 - i < N → i ≤ 6 → wX_bitCount_4 post x (nI n) f_explored f_loadCount f_orderCount f_lateCount f_strictCount (sq_nA ow) (sq_nA kd) (sq_nA vr) (sq_nA vl) a_lateSet a_strictSet a_place a_earlier N (nI (sq_cn (bt x) i)) (nI i) := by
    intro N
    induction N with
    | zero => intro i g; omega
    | succ N ih =>
      intro i g1 g2
      refine pk_le 6 i (fun g3 => ?_) (fun g3 => nm_r (e' := nI (sq_cn (bt x) (i + 1))) ?_ (nm_r (nI_1 i) (ih (i + 1) (by omega) (by omega))))
      · have : i = 6 := by omega
        rw [this]; exact h
      · rw [sq_bit x (by omega), sq_cn_s]
        split
        · exact nI_add _ 1
        · exact nI_add _ 0
  exact Exists.intro 7 (key 7 0 (by omega) (by omega))
theorem sq_xOnly {F : Int32} {ss : Nat → Nat} {S : Nat} {Q : Nat → Prop} {post : Int32 → SX → Prop} (hW : sq_W n ow kd vr vl) (hP : ∀ i, i < n → a_place i = nI (2 * sq_sl kd vr i)) (hS : S ≤ 720) (hQ : ∀ o, Q o → o < 262144) (hSS : sq_SS ss S Q)
    (h1 : (∀ o, sq_PX n ow kd vr vl (bt F) o → Q o) → ∀ A : Nat → Int32, post 1 ((nI n), f_explored, f_loadCount, (nI (sq_fac n)), f_lateCount, (nI S), (sq_nA ow), (sq_nA kd), (sq_nA vr), (sq_nA vl), a_lateSet, (sq_nA ss), a_place, A)) (h0 : (¬ ∀ o, sq_PX n ow kd vr vl (bt F) o → Q o) → ∀ A : Nat → Int32, post 0 ((nI n), f_explored, f_loadCount, (nI (sq_fac n)), f_lateCount, (nI S), (sq_nA ow), (sq_nA kd), (sq_nA vr), (sq_nA vl), a_lateSet, (sq_nA ss), a_place, A)) : wpX_leavesOnlyStrict post ((nI n), f_explored, f_loadCount, (nI (sq_fac n)), f_lateCount, (nI S), (sq_nA ow), (sq_nA kd), (sq_nA vr), (sq_nA vl), a_lateSet, (sq_nA ss), a_place, a_earlier) F := by
  obtain ⟨hn, hw, hk3, hv3, hl4, _⟩ := id hW
  have h720 := sq_fac6 n hn
  have hss : ∀ i, i < S → ss i < 262144 := fun i hi => hQ _ ((hSS.2 _).mpr ⟨i, hi, rfl⟩)
  refine sq_xEar hn hw hk3 (fun A hA => ?_)
  have key : ∀ N k, sq_fac n - k < N → k ≤ sq_fac n → (∀ o, sq_Pk n ow kd vr vl (bt F) k o → Q o) → wX_leavesOnlyStrict_7 post (nI n) f_explored f_loadCount (nI (sq_fac n)) f_lateCount (nI S) (sq_nA ow) (sq_nA kd) (sq_nA vr) (sq_nA vl) a_lateSet (sq_nA ss) a_place A N (nI k) := by
    intro N
    induction N with
    | zero => intro k g; omega
    | succ N ih =>
      intro k g1 g2 hk
      refine pk_le (sq_fac n) k (fun g3 => ?_) (fun g3 => ?_)
      · have ek : k = sq_fac n := by omega
        subst ek
        exact h1 (fun o ho => hk o ((sq_Pk_all o).mpr ho)) A
      · refine sq_xOut (F := F) hW (by omega) (sq_Qc n k) hA hP (fun hv => ?_) (fun hv => ?_)
        · have hlt : sq_sm (sq_fx ow kd vr vl (sq_Q n k) n) 9 < 262144 := sq_sm_lt (sq_fx4 hl4 (sq_Q n k) n) 9
          have hne : ¬ nI (sq_sm (sq_fx ow kd vr vl (sq_Q n k) n) 9) = -4 := by
            intro z
            have := nI_pos (n := sq_sm (sq_fx ow kd vr vl (sq_Q n k) n) 9) (by omega)
            rw [z] at this
            exact this (by decide)
          refine br_f hne ?_
          have hmem : (∃ i, i < S ∧ nI (ss i) = nI (sq_sm (sq_fx ow kd vr vl (sq_Q n k) n) 9)) ↔ Q (sq_sm (sq_fx ow kd vr vl (sq_Q n k) n) 9) := by
            constructor
            · rintro ⟨i, hi, e⟩
              have := hss i hi
              rw [nI_eq (by omega) (by omega)] at e
              exact (hSS.2 _).mpr ⟨i, hi, e⟩
            · intro z
              obtain ⟨i, hi, e⟩ := (hSS.2 _).mp z
              exact ⟨i, hi, by rw [e]⟩
          refine sq_xHas_strictSet hS hss hSS.1 (fun z => br_f (by decide) (nm_r (nI_1 k) (ih (k + 1) (by omega) (by omega) (fun o ho => ?_)))) (fun z => br_t rfl (h0 (fun w => z (hmem.mpr (w _ ⟨sq_Q n k, sq_cd_pm (sq_Qc n k), hv, rfl⟩))) A))
          obtain ⟨m, hm, a, b⟩ := ho
          by_cases e : m = k
          · rw [b, e]; exact hmem.mp z
          · exact hk o ⟨m, by omega, a, b⟩
        · refine br_t rfl (nm_r (nI_1 k) (ih (k + 1) (by omega) (by omega) (fun o ho => ?_)))
          obtain ⟨m, hm, a, b⟩ := ho
          by_cases e : m = k
          · rw [e] at a; exact absurd a hv
          · exact hk o ⟨m, by omega, a, b⟩
  exact Exists.intro (sq_fac n + 1) (key (sq_fac n + 1) 0 (by omega) (by omega) (fun o z => by obtain ⟨m, hm, _⟩ := z; omega))
end
/-- l is the least number of fences among the sets below m that are good -/
def sq_lst (G : Nat → Prop) (m l : Nat) : Prop := l ≤ 6 ∧ (l = 6 ∨ ∃ r, r < m ∧ G r ∧ sq_cn (bt (nI r)) 6 = l) ∧ ∀ r, r < m → G r → l ≤ sq_cn (bt (nI r)) 6
theorem sq_lst_0 (G : Nat → Prop) : sq_lst G 0 6 := ⟨Nat.le_refl _, Or.inl rfl, fun r hr => by omega⟩
theorem sq_lst_k {G : Nat → Prop} {m l : Nat} (h : sq_lst G m l) (hm : G m → l ≤ sq_cn (bt (nI m)) 6) : sq_lst G (m + 1) l := by
  obtain ⟨a, b, c⟩ := h
  refine ⟨a, b.imp id (fun ⟨r, x, y⟩ => ⟨r, by omega, y⟩), fun r hr hg => ?_⟩
  by_cases e : r = m
  · rw [e]; rw [e] at hg; exact hm hg
  · exact c r (by omega) hg
theorem sq_lst_n {G : Nat → Prop} {m l : Nat} (h : sq_lst G m l) (hm : G m) (hl : sq_cn (bt (nI m)) 6 < l) : sq_lst G (m + 1) (sq_cn (bt (nI m)) 6) := by
  obtain ⟨a, b, c⟩ := h
  refine ⟨by omega, Or.inr ⟨m, by omega, hm, rfl⟩, fun r hr hg => ?_⟩
  by_cases e : r = m
  · rw [e]; exact Nat.le_refl _
  · have := c r (by omega) hg; omega
section
variable {n : Nat} {ow kd vr vl : Nat → Nat} {f_explored f_loadCount f_orderCount f_lateCount f_strictCount : Int32} {a_lateSet a_strictSet a_place a_earlier : Nat → Int32}
theorem sq_xFen {ss : Nat → Nat} {S : Nat} {Q : Nat → Prop} {post : Int32 → SX → Prop} (hW : sq_W n ow kd vr vl) (hP : ∀ i, i < n → a_place i = nI (2 * sq_sl kd vr i)) (hS : S ≤ 720) (hQ : ∀ o, Q o → o < 262144) (hSS : sq_SS ss S Q)
    (h : ∀ l, sq_lst (fun m => ∀ o, sq_PX n ow kd vr vl (bt (nI m)) o → Q o) 32 l → ∀ A : Nat → Int32, post (nI l) ((nI n), f_explored, f_loadCount, (nI (sq_fac n)), f_lateCount, (nI S), (sq_nA ow), (sq_nA kd), (sq_nA vr), (sq_nA vl), a_lateSet, (sq_nA ss), a_place, A)) : ∃ N, wX_fencesNeeded_9 post N 6 0 (nI n) f_explored f_loadCount (nI (sq_fac n)) f_lateCount (nI S) (sq_nA ow) (sq_nA kd) (sq_nA vr) (sq_nA vl) a_lateSet (sq_nA ss) a_place a_earlier := by
  have key : ∀ N m l (A : Nat → Int32), 32 - m < N → m ≤ 32 → sq_lst (fun m => ∀ o, sq_PX n ow kd vr vl (bt (nI m)) o → Q o) m l → wX_fencesNeeded_9 post N (nI l) (nI m) (nI n) f_explored f_loadCount (nI (sq_fac n)) f_lateCount (nI S) (sq_nA ow) (sq_nA kd) (sq_nA vr) (sq_nA vl) a_lateSet (sq_nA ss) a_place A := by
    intro N
    induction N with
    | zero => intro m l A g; omega
    | succ N ih =>
      intro m l A g1 g2 hl
      have hl6 := hl.1
      have hb6 := sq_cn_le (bt (nI m)) 6
      refine pk_lt 31 m (fun g3 => ?_) (fun g3 => ?_)
      · have em : m = 32 := by omega
        rw [em] at hl
        exact h l hl A
      · refine sq_xBits (pk_le l (sq_cn (bt (nI m)) 6) (fun g4 => nm_r (nI_1 m) (ih (m + 1) l A (by omega) (by omega) (sq_lst_k hl (fun _ => g4)))) (fun g4 => ?_))
        exact sq_xOnly hW hP hS hQ hSS (fun hg A' => br_f (by decide) (nm_r (nI_1 m) (ih (m + 1) _ A' (by omega) (by omega) (sq_lst_n hl hg g4)))) (fun hg A' => br_t rfl (nm_r (nI_1 m) (ih (m + 1) l A' (by omega) (by omega) (sq_lst_k hl (fun z => absurd z hg)))))
  exact ⟨33, key 33 0 6 a_earlier (by omega) (by omega) (sq_lst_0 _)⟩
end
