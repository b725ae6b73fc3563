/-! the reference: which instruction is which store and load, and the relation's bits -/
def sq_St (n : Nat) (kd : Nat → Nat) (st : Nat → Int32) : Prop := ∀ j, j < n → kd j = 0 → st (sq_cn (sq_ls kd) j) = nI j
def sq_Ld (n : Nat) (kd : Nat → Nat) (ld : Nat → Int32) : Prop := ∀ j, j < n → kd j = 1 → ld (sq_cn (sq_ll kd) j) = nI j
theorem sq_lsT {kd : Nat → Nat} {j : Nat} : sq_ls kd j = true ↔ kd j = 0 := by show decide (kd j = 0) = true ↔ _; rw [decide_eq_true_eq]
theorem sq_llT {kd : Nat → Nat} {j : Nat} : sq_ll kd j = true ↔ kd j = 1 := by show decide (kd j = 1) = true ↔ _; rw [decide_eq_true_eq]
theorem sq_lsF {kd : Nat → Nat} {j : Nat} (h : kd j ≠ 0) : sq_ls kd j = false := decide_eq_false h
theorem sq_llF {kd : Nat → Nat} {j : Nat} (h : kd j ≠ 1) : sq_ll kd j = false := decide_eq_false h
section
variable {n : Nat} {ow kd vr vl : Nat → Nat} {yf_fences yf_storeCount yf_loadCount yf_listed yf_strictListed : Int32} {ya_stores ya_loads ya_found ya_place ya_after ya_list ya_strictList : Nat → Int32}
theorem sq_ySort {post : SY → Prop} (hn : n ≤ 6) (hk3 : ∀ i, kd i < 3) (h : ∀ st ld : Nat → Int32, sq_St n kd st → sq_Ld n kd ld → post ((nI n), yf_fences, (nI (sq_cn (sq_ls kd) n)), (nI (sq_cn (sq_ll kd) n)), yf_listed, yf_strictListed, (sq_nA kd), (sq_nA ow), (sq_nA vr), (sq_nA vl), st, ld, ya_found, ya_place, ya_after, ya_list, ya_strictList)) : wpY_sortOut post ((nI n), yf_fences, yf_storeCount, yf_loadCount, yf_listed, yf_strictListed, (sq_nA kd), (sq_nA ow), (sq_nA vr), (sq_nA vl), ya_stores, ya_loads, ya_found, ya_place, ya_after, ya_list, ya_strictList) := by
  have key : ∀ N i (st ld : Nat → Int32), n - i < N → i ≤ n → sq_St i kd st → sq_Ld i kd ld → wY_sortOut_12 post (nI n) yf_fences yf_listed yf_strictListed N (nI i) (nI (sq_cn (sq_ls kd) i)) (nI (sq_cn (sq_ll kd) i)) (sq_nA kd) (sq_nA ow) (sq_nA vr) (sq_nA vl) st ld ya_found ya_place ya_after ya_list ya_strictList := by
    intro N
    induction N with
    | zero => intro i st ld h1; omega
    | succ N ih =>
      intro i st ld h1 h2 hS hL
      have hki := hk3 i
      have c1 := sq_cn_le (sq_ls kd) i
      have c2 := sq_cn_le (sq_ll kd) i
      refine pk_le n i (fun h3 => ?_) (fun h3 => ⟨pk_in i 6 (by omega), pk_eq (kd i) 0 (fun k0 => ?_) (fun k0 => ?_) (sq_at kd (by omega)) rfl (by omega) (by omega)⟩)
      · have ei : i = n := by omega
        subst ei
        exact h st ld hS hL
      · have g := ih (i + 1) (upd st (nI (sq_cn (sq_ls kd) i)).toNatClampNeg (nI i)) ld (by omega) (by omega) (by
          intro j hj hj0
          rw [nI_clamp (by omega)]
          by_cases e : j = i
          · rw [e, pk_us]
          · have := sq_cn_lo (p := sq_ls kd) (i := j) (j := i) (sq_lsT.mpr hj0) (by omega)
            rw [pk_un (by omega)]
            exact hS j (by omega) hj0) (by
          intro j hj hj1
          by_cases e : j = i
          · rw [e] at hj1; omega
          · exact hL j (by omega) hj1)
        rw [sq_cn_t (sq_lsT.mpr k0), sq_cn_f (sq_llF (by omega : kd i ≠ 1))] at g
        exact ⟨pk_in (sq_cn (sq_ls kd) i) 6 (by omega), nm_e (nm_r (nI_1 _) ⟨pk_in i 6 (by omega), pk_eq (kd i) 1 (fun z => by omega) (fun _ => nm_r (nI_1 i) g) (sq_at kd (by omega)) rfl (by omega) (by omega)⟩)⟩
      · refine ⟨pk_in i 6 (by omega), pk_eq (kd i) 1 (fun k1 => ?_) (fun k1 => ?_) (sq_at kd (by omega)) rfl (by omega) (by omega)⟩
        · have g := ih (i + 1) st (upd ld (nI (sq_cn (sq_ll kd) i)).toNatClampNeg (nI i)) (by omega) (by omega) (by
            intro j hj hj0
            by_cases e : j = i
            · rw [e] at hj0; omega
            · exact hS j (by omega) hj0) (by
            intro j hj hj1
            rw [nI_clamp (by omega)]
            by_cases e : j = i
            · rw [e, pk_us]
            · have := sq_cn_lo (p := sq_ll kd) (i := j) (j := i) (sq_llT.mpr hj1) (by omega)
              rw [pk_un (by omega)]
              exact hL j (by omega) hj1)
          rw [sq_cn_f (sq_lsF k0), sq_cn_t (sq_llT.mpr k1)] at g
          exact ⟨pk_in (sq_cn (sq_ll kd) i) 6 (by omega), nm_e (nm_r (nI_1 _) (nm_r (nI_1 i) g))⟩
        · have g := ih (i + 1) st ld (by omega) (by omega) (by
            intro j hj hj0
            by_cases e : j = i
            · rw [e] at hj0; omega
            · exact hS j (by omega) hj0) (by
            intro j hj hj1
            by_cases e : j = i
            · rw [e] at hj1; omega
            · exact hL j (by omega) hj1)
          rw [sq_cn_f (sq_lsF k0), sq_cn_f (sq_llF k1)] at g
          exact nm_r (nI_1 i) g
  exact Exists.intro (n + 1) (key (n + 1) 0 ya_stores ya_loads (by omega) (by omega) (fun j hj => by omega) (fun j hj => by omega))
theorem sq_yFen {a b : Nat} {post : Int32 → Prop} (hb : b ≤ 6) (hab : a ≤ b) (hk3 : ∀ i, kd i < 3) (h1 : (∃ i, a ≤ i ∧ i < b ∧ (bt yf_fences i = true ∨ kd i = 2)) → post 1) (h0 : (∀ i, a ≤ i → i < b → bt yf_fences i = false ∧ kd i ≠ 2) → post 0) : wpY_isFenced post ((nI n), yf_fences, yf_storeCount, yf_loadCount, yf_listed, yf_strictListed, (sq_nA kd), (sq_nA ow), (sq_nA vr), (sq_nA vl), ya_stores, ya_loads, ya_found, ya_place, ya_after, ya_list, ya_strictList) (nI a) (nI b) := by
  have key : ∀ N i, b - i < N → a ≤ i → i ≤ b → (∀ l, a ≤ l → l < i → bt yf_fences l = false ∧ kd l ≠ 2) → wY_isFenced_2 post (nI b) (nI n) yf_fences yf_storeCount yf_loadCount yf_listed yf_strictListed (sq_nA kd) (sq_nA ow) (sq_nA vr) (sq_nA vl) ya_stores ya_loads ya_found ya_place ya_after ya_list ya_strictList N (nI i) := by
    intro N
    induction N with
    | zero => intro i h1; omega
    | succ N ih =>
      intro i g1 g2 g3 hl
      have hki := hk3 i
      refine pk_le b i (fun g4 => h0 (fun l x y => hl l x (by omega))) (fun g4 => ek_if (sq_bit1 yf_fences (k := i) (by omega)) (fun z => h1 ⟨i, g2, g4, Or.inl z⟩) (fun z => ⟨pk_in i 6 (by omega), pk_eq (kd i) 2 (fun k2 => h1 ⟨i, g2, g4, Or.inr k2⟩) (fun k2 => nm_r (nI_1 i) (ih (i + 1) (by omega) (by omega) (by omega) (fun l x y => ?_))) (sq_at kd (by omega)) rfl (by omega) (by omega)⟩))
      by_cases e : l = i
      · rw [e]
        refine ⟨?_, k2⟩
        cases hh : bt yf_fences i
        · rfl
        · exact absurd hh z
      · exact hl l x (by omega)
  exact Exists.intro (b - a + 1) (key (b - a + 1) a (by omega) (by omega) hab (fun l x y => by omega))
theorem sq_yStaI {S : Bool} {x1 : Int32} {a : Nat} {post : SY → Prop} {J2 : Int32 → (Nat → Int32) → (Nat → Int32) → (Nat → Int32) → (Nat → Int32) → (Nat → Int32) → (Nat → Int32) → (Nat → Int32) → (Nat → Int32) → (Nat → Int32) → (Nat → Int32) → (Nat → Int32) → Prop} (hn : n ≤ 6) (ha : a < n) (hw : ∀ i, ow i < 4) (hk3 : ∀ i, kd i < 3) (hS : x1 = 0 ↔ S = false) (A0 : Nat → Int32)
    (hJ : ∀ A' : Nat → Int32, (∀ l, l ≠ a → A' l = A0 l) → (∀ c, c < 32 → (bt (A' a) c = true ↔ sq_R0 n ow kd S (bt yf_fences) a c)) → J2 (nI (a + 1)) (sq_nA kd) (sq_nA ow) (sq_nA vr) (sq_nA vl) ya_stores ya_loads ya_found ya_place A' ya_list ya_strictList) :
    ∀ N b (A : Nat → Int32), n - b < N → a < b → b ≤ n → (∀ l, l ≠ a → A l = A0 l) → (∀ c, c < 32 → (bt (A a) c = true ↔ c < b ∧ sq_R0 n ow kd S (bt yf_fences) a c)) → wY_startRelation_21 post J2 x1 (nI a) (nI n) yf_fences yf_storeCount yf_loadCount yf_listed yf_strictListed N (nI b) (sq_nA kd) (sq_nA ow) (sq_nA vr) (sq_nA vl) ya_stores ya_loads ya_found ya_place A ya_list ya_strictList := by
  intro N
  induction N with
  | zero => intro b A h1; omega
  | succ N ih =>
    intro b A h1 hab h2 hA hb
    have hwa := hw a
    have hwb := hw b
    have hka := hk3 a
    have hkb := hk3 b
    refine pk_le n b (fun h3 => nm_r (nI_1 a) (hJ A hA (fun c hc => ?_))) (fun h3 => ?_)
    · rw [hb c hc]
      exact ⟨fun z => z.2, fun z => ⟨by have := z.2.1; omega, z⟩⟩
    · have hsame : (¬ sq_R0 n ow kd S (bt yf_fences) a b) → wY_startRelation_21 post J2 x1 (nI a) (nI n) yf_fences yf_storeCount yf_loadCount yf_listed yf_strictListed N (nI (b + 1)) (sq_nA kd) (sq_nA ow) (sq_nA vr) (sq_nA vl) ya_stores ya_loads ya_found ya_place (upd A (nI a).toNatClampNeg (A (nI a).toNatClampNeg)) ya_list ya_strictList := by
        intro hno
        rw [sq_updS]
        refine ih (b + 1) A (by omega) (by omega) (by omega) hA (fun c hc => ?_)
        rw [hb c hc]
        constructor
        · rintro ⟨z1, z2⟩; exact ⟨by omega, z2⟩
        · rintro ⟨z1, z2⟩
          refine ⟨?_, z2⟩
          by_cases e : c = b
          · rw [e] at z2; exact absurd z2 hno
          · omega
      have s66 : ∀ z : Int32, ((z = 0 ∧ ¬ (kd a = 0 ∧ kd b = 1 ∧ S = false ∧ ∀ i, a ≤ i → i < b → bt yf_fences i = false ∧ kd i ≠ 2)) ∨ (z = 1 ∧ (kd a = 0 ∧ kd b = 1 ∧ S = false ∧ ∀ i, a ≤ i → i < b → bt yf_fences i = false ∧ kd i ≠ 2))) → wY_startRelation_66 post J2 (wY_startRelation_21 post J2 x1 (nI a) (nI n) yf_fences yf_storeCount yf_loadCount yf_listed yf_strictListed N) x1 (nI a) (nI b) z (nI n) yf_fences yf_storeCount yf_loadCount yf_listed yf_strictListed (sq_nA kd) (sq_nA ow) (sq_nA vr) (sq_nA vl) ya_stores ya_loads ya_found ya_place A ya_list ya_strictList := by
        intro z hz
        refine ⟨pk_in a 6 (by omega), pk_in b 6 (by omega), pk_eq (ow a) (ow b) (fun h4 => ?_) (fun h4 => ?_) (sq_at ow (by omega)) (sq_at ow (by omega)) (by omega) (by omega)⟩
        · rcases hz with ⟨e, hz⟩ | ⟨e, hz⟩
          · subst e
            refine br_t rfl ⟨pk_in a 6 (by omega), pk_in a 6 (by omega), nm_e (nm_r (nI_1 b) (ih (b + 1) _ (by omega) (by omega) (by omega) (fun l hl => ?_) (fun c hc => ?_)))⟩
            · rw [nI_clamp (by omega), pk_un hl]; exact hA l hl
            · rw [nI_clamp (by omega), pk_us, sq_set _ (by omega) hc, Bool.or_eq_true, hb c hc, decide_eq_true_eq]
              constructor
              · rintro (y | y)
                · exact ⟨by omega, y.2⟩
                · rw [y]; exact ⟨by omega, hab, h3, h4, hz⟩
              · rintro ⟨y1, y2⟩
                by_cases e : c = b
                · right; exact e
                · left; exact ⟨by omega, y2⟩
          · subst e
            exact br_f (by decide) ⟨pk_in a 6 (by omega), pk_in a 6 (by omega), nm_e (nm_r (nI_1 b) (hsame (fun y => y.2.2.2 hz)))⟩
        · exact ⟨pk_in a 6 (by omega), pk_in a 6 (by omega), nm_e (nm_r (nI_1 b) (hsame (fun y => h4 y.2.2.1)))⟩
      refine ⟨pk_in a 6 (by omega), pk_eq (kd a) 0 (fun k0 => ⟨pk_in b 6 (by omega), pk_eq (kd b) 1 (fun k1 => ?_) (fun k1 => s66 0 (Or.inl ⟨rfl, fun y => k1 y.2.1⟩)) (sq_at kd (by omega)) rfl (by omega) (by omega)⟩) (fun k0 => s66 0 (Or.inl ⟨rfl, fun y => k0 y.1⟩)) (sq_at kd (by omega)) rfl (by omega) (by omega)⟩
      refine ek_if hS (fun hs => ?_) (fun hs => s66 0 (Or.inl ⟨rfl, fun y => hs y.2.2.1⟩))
      refine sq_yFen (by omega) (by omega) hk3 (fun hf => br_f (by decide) (s66 0 (Or.inl ⟨rfl, fun y => ?_⟩))) (fun hf => br_t rfl (s66 1 (Or.inr ⟨rfl, k0, k1, hs, hf⟩)))
      obtain ⟨i, y1, y2, y3⟩ := hf
      have := y.2.2.2 i y1 y2
      rcases y3 with y3 | y3
      · rw [this.1] at y3; exact absurd y3 (by decide)
      · exact this.2 y3
theorem sq_ySta {S : Bool} {x1 : Int32} {post : SY → Prop} (hn : n ≤ 6) (hw : ∀ i, ow i < 4) (hk3 : ∀ i, kd i < 3) (hS : x1 = 0 ↔ S = false)
    (h : ∀ A : Nat → Int32, (∀ a, a < n → ∀ c, c < 32 → (bt (A a) c = true ↔ sq_R0 n ow kd S (bt yf_fences) a c)) → post ((nI n), yf_fences, yf_storeCount, yf_loadCount, yf_listed, yf_strictListed, (sq_nA kd), (sq_nA ow), (sq_nA vr), (sq_nA vl), ya_stores, ya_loads, ya_found, ya_place, A, ya_list, ya_strictList)) : wpY_startRelation post ((nI n), yf_fences, yf_storeCount, yf_loadCount, yf_listed, yf_strictListed, (sq_nA kd), (sq_nA ow), (sq_nA vr), (sq_nA vl), ya_stores, ya_loads, ya_found, ya_place, ya_after, ya_list, ya_strictList) x1 := by
  have key : ∀ N a (A : Nat → Int32), n - a < N → a ≤ n → (∀ l, l < a → ∀ c, c < 32 → (bt (A l) c = true ↔ sq_R0 n ow kd S (bt yf_fences) l c)) → wY_startRelation_2 post x1 (nI n) yf_fences yf_storeCount yf_loadCount yf_listed yf_strictListed N (nI a) (sq_nA kd) (sq_nA ow) (sq_nA vr) (sq_nA vl) ya_stores ya_loads ya_found ya_place A ya_list ya_strictList := by
    intro N
    induction N with
    | zero => intro a A h1; omega
    | succ N ih =>
      intro a A h1 h2 hA
      refine pk_le n a (fun h3 => ?_) (fun h3 => ⟨pk_in a 6 (by omega), nm_e (nm_r (nI_1 a) (Exists.intro (n + 1) ?_))⟩)
      · have ea : a = n := by omega
        subst ea
        exact h A hA
      · refine sq_yStaI hn h3 hw hk3 hS (upd A (nI a).toNatClampNeg 0) (fun A' g1 g2 => ih (a + 1) A' (by omega) (by omega) (fun l hl => ?_)) (n + 1) (a + 1) _ (by omega) (by omega) (by omega) (fun l _ => rfl) (fun c hc => ?_)
        · by_cases e : l = a
          · rw [e]; exact g2
          · rw [g1 l e, nI_clamp (by omega), pk_un e]; exact hA l (by omega)
        · rw [nI_clamp (by omega), pk_us, b_0]
          exact ⟨fun z => absurd z (by decide), fun z => by have := z.1; have := z.2.1; omega⟩
  exact Exists.intro (n + 1) (key (n + 1) 0 ya_after (by omega) (by omega) (fun l hl => by omega))
end
