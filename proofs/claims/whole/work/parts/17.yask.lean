/-! the reference: what the questions walk over -/
/-- every fence of the set stands between two instructions of one thread -/
def sq_btw (n : Nat) (ow : Nat → Nat) (m i : Nat) : Prop := ∀ b, b < i → bt (nI m) b = true → b + 1 < n ∧ ow b = ow (b + 1)
section
variable {n : Nat} {ow kd vr vl : Nat → Nat} {yf_fences yf_storeCount yf_loadCount yf_listed yf_strictListed : Int32} {ya_stores ya_loads ya_found ya_place ya_after ya_list ya_strictList : Nat → Int32}
theorem sq_yHas {la : Nat → Nat} {L : Nat} {x : Int32} {post : Int32 → SY → Prop} (hL : L ≤ 720) (h1 : (∃ i, i < L ∧ nI (la i) = x) → post 1 ((nI n), yf_fences, yf_storeCount, yf_loadCount, (nI L), yf_strictListed, (sq_nA kd), (sq_nA ow), (sq_nA vr), (sq_nA vl), ya_stores, ya_loads, ya_found, ya_place, ya_after, (sq_nA la), ya_strictList)) (h0 : (¬ ∃ i, i < L ∧ nI (la i) = x) → post 0 ((nI n), yf_fences, yf_storeCount, yf_loadCount, (nI L), yf_strictListed, (sq_nA kd), (sq_nA ow), (sq_nA vr), (sq_nA vl), ya_stores, ya_loads, ya_found, ya_place, ya_after, (sq_nA la), ya_strictList)) : ∃ N, wY_possible_7 post x (nI n) yf_fences yf_storeCount yf_loadCount (nI L) yf_strictListed (sq_nA kd) (sq_nA ow) (sq_nA vr) (sq_nA vl) ya_stores ya_loads ya_found ya_place ya_after (sq_nA la) ya_strictList N 0 := by
  have key : ∀ N i, L - i < N → i ≤ L → (∀ j, j < i → ¬ nI (la j) = x) → wY_possible_7 post x (nI n) yf_fences yf_storeCount yf_loadCount (nI L) yf_strictListed (sq_nA kd) (sq_nA ow) (sq_nA vr) (sq_nA vl) ya_stores ya_loads ya_found ya_place ya_after (sq_nA la) ya_strictList N (nI i) := by
    intro N
    induction N with
    | zero => intro i g; omega
    | succ N ih =>
      intro i g1 g2 hi
      refine pk_le L i (fun g3 => h0 (fun ⟨j, a, b⟩ => hi j (by omega) b)) (fun g3 => ⟨pk_in i 720 (by omega), ?_⟩)
      rw [sq_at la (by omega)]
      refine br_c (fun c => h1 ⟨i, g3, c⟩) (fun c => nm_r (nI_1 i) (ih (i + 1) (by omega) (by omega) (fun j hj => ?_)))
      by_cases e : j = i
      · rw [e]; exact c
      · exact hi j (by omega)
  exact ⟨L + 1, key (L + 1) 0 (by omega) (by omega) (fun j hj => by omega)⟩
theorem sq_yIsS {ss : Nat → Nat} {S : Nat} {x : Int32} {post : Int32 → Prop} (hS : S ≤ 720) (h1 : (∃ i, i < S ∧ nI (ss i) = x) → post 1) (h0 : (¬ ∃ i, i < S ∧ nI (ss i) = x) → post 0) : wpY_isStrict post ((nI n), yf_fences, yf_storeCount, yf_loadCount, yf_listed, (nI S), (sq_nA kd), (sq_nA ow), (sq_nA vr), (sq_nA vl), ya_stores, ya_loads, ya_found, ya_place, ya_after, ya_list, (sq_nA ss)) x := by
  have key : ∀ N i, S - i < N → i ≤ S → (∀ j, j < i → ¬ nI (ss j) = x) → wY_isStrict_2 post x (nI n) yf_fences yf_storeCount yf_loadCount yf_listed (nI S) (sq_nA kd) (sq_nA ow) (sq_nA vr) (sq_nA vl) ya_stores ya_loads ya_found ya_place ya_after ya_list (sq_nA ss) N (nI i) := by
    intro N
    induction N with
    | zero => intro i g; omega
    | succ N ih =>
      intro i g1 g2 hi
      refine pk_le S i (fun g3 => h0 (fun ⟨j, a, b⟩ => hi j (by omega) b)) (fun g3 => ⟨pk_in i 720 (by omega), ?_⟩)
      rw [sq_at ss (by omega)]
      refine br_c (fun c => h1 ⟨i, g3, c⟩) (fun c => nm_r (nI_1 i) (ih (i + 1) (by omega) (by omega) (fun j hj => ?_)))
      by_cases e : j = i
      · rw [e]; exact c
      · exact hi j (by omega)
  exact Exists.intro (S + 1) (key (S + 1) 0 (by omega) (by omega) (fun j hj => by omega))
theorem sq_yFst {ss : Nat → Nat} {S : Nat} {Q : Nat → Prop} {post : Int32 → SY → Prop} (hW : sq_W n ow kd vr vl) (hS : S ≤ 720) (hQ : ∀ o, Q o → o < 262144) (hSS : sq_SS ss S Q) (hPY : ∀ o, sq_PY n ow kd vr vl false (bt yf_fences) o → o < 262144)
    (h : ∀ (la : Nat → Nat) (L : Nat) (st ld fo pl A : Nat → Int32) (r : Int32), L ≤ 720 → sq_SS la L (sq_PY n ow kd vr vl false (bt yf_fences)) → sq_sup la L Q r → post r ((nI n), yf_fences, (nI (sq_cn (sq_ls kd) n)), (nI (sq_cn (sq_ll kd) n)), (nI L), (nI S), (sq_nA kd), (sq_nA ow), (sq_nA vr), (sq_nA vl), st, ld, fo, pl, A, (sq_nA la), (sq_nA ss))) : wpY_firstSurprise post ((nI n), yf_fences, yf_storeCount, yf_loadCount, yf_listed, (nI S), (sq_nA kd), (sq_nA ow), (sq_nA vr), (sq_nA vl), ya_stores, ya_loads, ya_found, ya_place, ya_after, ya_list, (sq_nA ss)) := by
  have hss : ∀ i, i < S → ss i < 262144 := fun i hi => hQ _ ((hSS.2 _).mpr ⟨i, hi, rfl⟩)
  refine sq_yGo0 (yf_storeCount := yf_storeCount) (yf_loadCount := yf_loadCount) hW (fun la L st ld fo pl A hL hLS => Exists.intro (L + 1) ?_)
  have hla : ∀ i, i < L → la i < 262144 := fun i hi => hPY _ ((hLS.2 _).mpr ⟨i, hi, rfl⟩)
  have key : ∀ N i, L - i < N → i ≤ L → (∀ j, j < i → Q (la j)) → wY_firstSurprise_7 post (nI n) yf_fences (nI (sq_cn (sq_ls kd) n)) (nI (sq_cn (sq_ll kd) n)) (nI L) (nI S) (sq_nA kd) (sq_nA ow) (sq_nA vr) (sq_nA vl) st ld fo pl A (sq_nA la) (sq_nA ss) N (nI i) := by
    intro N
    induction N with
    | zero => intro i g; omega
    | succ N ih =>
      intro i g1 g2 hi
      refine pk_le L i (fun g3 => h la L st ld fo pl A _ hL hLS (Or.inl ⟨rfl, fun j hj => hi j (by omega)⟩)) (fun g3 => ⟨pk_in i 720 (by omega), ?_⟩)
      have hli := hla i g3
      have hmem : (∃ k, k < S ∧ nI (ss k) = sq_nA la (nI i).toNatClampNeg) ↔ Q (la i) := by
        rw [sq_at la (by omega)]
        constructor
        · rintro ⟨k, hk, e⟩
          have := hss k hk
          rw [nI_eq (by omega) (by omega)] at e
          exact (hSS.2 _).mpr ⟨k, hk, e⟩
        · intro z
          obtain ⟨k, hk, e⟩ := (hSS.2 _).mp z
          exact ⟨k, hk, by rw [e]⟩
      refine sq_yIsS hS (fun z => br_f (by decide) (nm_r (nI_1 i) (ih (i + 1) (by omega) (by omega) (fun j hj => ?_)))) (fun z => br_t rfl ⟨pk_in i 720 (by omega), ?_⟩)
      · by_cases e : j = i
        · rw [e]; exact hmem.mp z
        · exact hi j (by omega)
      · rw [sq_at la (by omega)]
        exact h la L st ld fo pl A _ hL hLS (Or.inr ⟨i, g3, rfl, fun w => z (hmem.mpr w), hi⟩)
  exact key (L + 1) 0 (by omega) (by omega) (fun j hj => by omega)
theorem sq_yFds {la : Nat → Nat} {L : Nat} {x : Int32} {post : Int32 → SY → Prop} (hL : L ≤ 720) (h : post (sq_vs la (2 * x) L) ((nI n), yf_fences, yf_storeCount, yf_loadCount, (nI L), yf_strictListed, (sq_nA kd), (sq_nA ow), (sq_nA vr), (sq_nA vl), ya_stores, ya_loads, ya_found, ya_place, ya_after, (sq_nA la), ya_strictList)) : ∃ N, wY_finds_24 post x (nI n) yf_fences yf_storeCount yf_loadCount (nI L) yf_strictListed (sq_nA kd) (sq_nA ow) (sq_nA vr) (sq_nA vl) ya_stores ya_loads ya_found ya_place ya_after (sq_nA la) ya_strictList N 0 0 := by
  have key : ∀ N i, L - i < N → i ≤ L → wY_finds_24 post x (nI n) yf_fences yf_storeCount yf_loadCount (nI L) yf_strictListed (sq_nA kd) (sq_nA ow) (sq_nA vr) (sq_nA vl) ya_stores ya_loads ya_found ya_place ya_after (sq_nA la) ya_strictList N (sq_vs la (2 * x) i) (nI i) := by
    intro N
    induction N with
    | zero => intro i g; omega
    | succ N ih =>
      intro i g1 g2
      refine pk_le L i (fun g3 => ?_) (fun g3 => ⟨pk_in i 720 (by omega), nm_r (e' := sq_vs la (2 * x) (i + 1)) ?_ (nm_r (nI_1 i) (ih (i + 1) (by omega) (by omega)))⟩)
      · have : i = L := by omega
        rw [← this] at h
        rw [← this]
        exact h
      · rw [sq_at la (by omega)]
        rfl
  exact ⟨L + 1, key (L + 1) 0 (by omega) (by omega)⟩
theorem sq_yEnds {la : Nat → Nat} {L : Nat} {x : Int32} {post : Int32 → SY → Prop} (hL : L ≤ 720) (h : post (sq_vs la (2 * (6 + x)) L) ((nI n), yf_fences, yf_storeCount, yf_loadCount, (nI L), yf_strictListed, (sq_nA kd), (sq_nA ow), (sq_nA vr), (sq_nA vl), ya_stores, ya_loads, ya_found, ya_place, ya_after, (sq_nA la), ya_strictList)) : ∃ N, wY_ends_20 post x (nI n) yf_fences yf_storeCount yf_loadCount (nI L) yf_strictListed (sq_nA kd) (sq_nA ow) (sq_nA vr) (sq_nA vl) ya_stores ya_loads ya_found ya_place ya_after (sq_nA la) ya_strictList N 0 0 := by
  have key : ∀ N i, L - i < N → i ≤ L → wY_ends_20 post x (nI n) yf_fences yf_storeCount yf_loadCount (nI L) yf_strictListed (sq_nA kd) (sq_nA ow) (sq_nA vr) (sq_nA vl) ya_stores ya_loads ya_found ya_place ya_after (sq_nA la) ya_strictList N (sq_vs la (2 * (6 + x)) i) (nI i) := by
    intro N
    induction N with
    | zero => intro i g; omega
    | succ N ih =>
      intro i g1 g2
      refine pk_le L i (fun g3 => ?_) (fun g3 => ⟨pk_in i 720 (by omega), nm_r (e' := sq_vs la (2 * (6 + x)) (i + 1)) ?_ (nm_r (nI_1 i) (ih (i + 1) (by omega) (by omega)))⟩)
      · have : i = L := by omega
        rw [← this] at h
        rw [← this]
        exact h
      · rw [sq_at la (by omega)]
        rfl
  exact ⟨L + 1, key (L + 1) 0 (by omega) (by omega)⟩
theorem sq_yImp {la : Nat → Nat} {L : Nat} {v w x y : Int32} {post : Int32 → SY → Prop} (hL : L ≤ 720) (h1 : (∀ i, i < L → sq_va1 (nI (la i)) (2 * x) = v → sq_va1 (nI (la i)) (2 * y) = w) → post 1 ((nI n), yf_fences, yf_storeCount, yf_loadCount, (nI L), yf_strictListed, (sq_nA kd), (sq_nA ow), (sq_nA vr), (sq_nA vl), ya_stores, ya_loads, ya_found, ya_place, ya_after, (sq_nA la), ya_strictList)) (h0 : (¬ ∀ i, i < L → sq_va1 (nI (la i)) (2 * x) = v → sq_va1 (nI (la i)) (2 * y) = w) → post 0 ((nI n), yf_fences, yf_storeCount, yf_loadCount, (nI L), yf_strictListed, (sq_nA kd), (sq_nA ow), (sq_nA vr), (sq_nA vl), ya_stores, ya_loads, ya_found, ya_place, ya_after, (sq_nA la), ya_strictList)) : ∃ N, wY_implies_34 post x v y w (nI n) yf_fences yf_storeCount yf_loadCount (nI L) yf_strictListed (sq_nA kd) (sq_nA ow) (sq_nA vr) (sq_nA vl) ya_stores ya_loads ya_found ya_place ya_after (sq_nA la) ya_strictList N 0 := by
  have key : ∀ N i, L - i < N → i ≤ L → (∀ j, j < i → sq_va1 (nI (la j)) (2 * x) = v → sq_va1 (nI (la j)) (2 * y) = w) → wY_implies_34 post x v y w (nI n) yf_fences yf_storeCount yf_loadCount (nI L) yf_strictListed (sq_nA kd) (sq_nA ow) (sq_nA vr) (sq_nA vl) ya_stores ya_loads ya_found ya_place ya_after (sq_nA la) ya_strictList N (nI i) := by
    intro N
    induction N with
    | zero => intro i g; omega
    | succ N ih =>
      intro i g1 g2 hi
      have nxt : (sq_va1 (nI (la i)) (2 * x) = v → sq_va1 (nI (la i)) (2 * y) = w) → i < L → wY_implies_34 post x v y w (nI n) yf_fences yf_storeCount yf_loadCount (nI L) yf_strictListed (sq_nA kd) (sq_nA ow) (sq_nA vr) (sq_nA vl) ya_stores ya_loads ya_found ya_place ya_after (sq_nA la) ya_strictList N (nI (i + 1)) := by
        intro hg hiL
        refine ih (i + 1) (by omega) (by omega) (fun j hj => ?_)
        by_cases e : j = i
        · rw [e]; exact hg
        · exact hi j (by omega)
      have ea : i < L → sq_nA la (nI i).toNatClampNeg = nI (la i) := fun g => sq_at la (by omega)
      refine pk_le L i (fun g3 => h1 (fun j hj => hi j (by omega))) (fun g3 => ⟨pk_in i 720 (by omega), ?_⟩)
      rw [ea g3]
      refine br_c (fun c1 => ⟨pk_in i 720 (by omega), ?_⟩) (fun c1 => nm_r (nI_1 i) (nxt (fun z => absurd z c1) g3))
      exact br_c (fun c2 => nm_r (nI_1 i) (nxt (fun _ => c2) g3)) (fun c2 => h0 (fun z => c2 (z i g3 c1)))
  exact ⟨L + 1, key (L + 1) 0 (by omega) (by omega) (fun j hj => by omega)⟩
theorem sq_yBits {x : Int32} {post : Int32 → Prop} (h : post (nI (sq_cn (bt x) 6))) : wpY_bits post ((nI n), yf_fences, yf_storeCount, yf_loadCount, yf_listed, yf_strictListed, (sq_nA kd), (sq_nA ow), (sq_nA vr), (sq_nA vl), ya_stores, ya_loads, ya_found, ya_place, ya_after, ya_list, ya_strictList) x := by
  have key : ∀ N i, 6 - i < N → i ≤ 6 → wY_bits_4 post x (nI n) yf_fences yf_storeCount yf_loadCount yf_listed yf_strictListed (sq_nA kd) (sq_nA ow) (sq_nA vr) (sq_nA vl) ya_stores ya_loads ya_found ya_place ya_after ya_list ya_strictList N (nI (sq_cn (bt x) i)) (nI i) := by
    intro N
    induction N with
    | zero => intro i g; omega
    | succ N ih =>
      intro i g1 g2
      refine pk_le 6 i (fun g3 => ?_) (fun g3 => nm_r (e' := nI (sq_cn (bt x) (i + 1))) ?_ (nm_r (nI_1 i) (ih (i + 1) (by omega) (by omega))))
      · have : i = 6 := by omega
        rw [this]; exact h
      · rw [sq_bit x (by omega), sq_cn_s]
        split
        · exact nI_add _ 1
        · exact nI_add _ 0
  exact Exists.intro 7 (key 7 0 (by omega) (by omega))
theorem sq_yNeed {ss : Nat → Nat} {S : Nat} {Q : Nat → Prop} {post : Int32 → SY → Prop} (hW : sq_W n ow kd vr vl) (hS : S ≤ 720) (hQ : ∀ o, Q o → o < 262144) (hSS : sq_SS ss S Q) (hPY : ∀ F o, sq_PY n ow kd vr vl false F o → o < 262144)
    (h : ∀ (l : Nat) (sc lc li : Int32) (st ld fo pl A la : Nat → Int32), sq_lst (fun m => sq_btw n ow m 5 ∧ ∀ o, sq_PY n ow kd vr vl false (bt (nI m)) o → Q o) 32 l → post (nI l) ((nI n), 0, sc, lc, li, (nI S), (sq_nA kd), (sq_nA ow), (sq_nA vr), (sq_nA vl), st, ld, fo, pl, A, la, (sq_nA ss))) : ∃ N, wY_fencesNeeded_10 post N 6 0 (nI n) 0 yf_storeCount yf_loadCount yf_listed (nI S) (sq_nA kd) (sq_nA ow) (sq_nA vr) (sq_nA vl) ya_stores ya_loads ya_found ya_place ya_after ya_list (sq_nA ss) := by
  obtain ⟨hn, hw, _, _, _, _⟩ := id hW
  have key : ∀ N m l (sc lc li : Int32) (st ld fo pl A la : Nat → Int32), 32 - m < N → m ≤ 32 → sq_lst (fun m => sq_btw n ow m 5 ∧ ∀ o, sq_PY n ow kd vr vl false (bt (nI m)) o → Q o) m l → wY_fencesNeeded_10 post N (nI l) (nI m) (nI n) 0 sc lc li (nI S) (sq_nA kd) (sq_nA ow) (sq_nA vr) (sq_nA vl) st ld fo pl A la (sq_nA ss) := by
    intro N
    induction N with
    | zero => intro m l sc lc li st ld fo pl A la g; omega
    | succ N ih =>
      intro m l sc lc li st ld fo pl A la g1 g2 hl
      have hl6 := hl.1
      have hb6 := sq_cn_le (bt (nI m)) 6
      refine pk_le 32 m (fun g3 => ?_) (fun g3 => Exists.intro 6 ?_)
      · have em : m = 32 := by omega
        rw [em] at hl
        exact h l sc lc li st ld fo pl A la hl
      · have inn : ∀ K i (z : Int32), 5 - i < K → i ≤ 5 → ((z = 1 ∧ sq_btw n ow m i) ∨ (z = 0 ∧ ¬ sq_btw n ow m i)) → wY_fencesNeeded_21 post (wY_fencesNeeded_10 post N) (nI l) (nI m) (nI n) 0 sc lc li (nI S) (sq_nA kd) (sq_nA ow) (sq_nA vr) (sq_nA vl) st ld fo pl A la (sq_nA ss) K z (nI i) := by
          intro K
          induction K with
          | zero => intro i z g; omega
          | succ K ihK =>
            intro i z k1 k2 hz
            refine pk_le 5 i (fun k3 => ?_) (fun k3 => ?_)
            · have ei : i = 5 := by omega
              subst ei
              rcases hz with ⟨e, hz⟩ | ⟨e, hz⟩
              · subst e
                refine br_f (by decide) (sq_yBits (pk_le l (sq_cn (bt (nI m)) 6) (fun g4 => nm_r (nI_1 m) (ih (m + 1) l _ _ _ _ _ _ _ _ _ (by omega) (by omega) (sq_lst_k hl (fun _ => g4)))) (fun g4 => ?_)))
                refine sq_yFst (yf_storeCount := sc) (yf_loadCount := lc) (yf_listed := li) hW hS hQ hSS (hPY _) (fun la' L' st' ld' fo' pl' A' r hL' hLS' hr => ?_)
                have hG : (∀ i, i < L' → Q (la' i)) ↔ ∀ o, sq_PY n ow kd vr vl false (bt (nI m)) o → Q o := by
                  constructor
                  · intro z o ho
                    obtain ⟨i, hi, e⟩ := (hLS'.2 o).mp ho
                    rw [← e]; exact z i hi
                  · intro z i hi
                    exact z _ ((hLS'.2 _).mpr ⟨i, hi, rfl⟩)
                rcases hr with ⟨e, hr⟩ | ⟨i, hi, e, hr, _⟩
                · subst e
                  exact br_t rfl (sq_yBits (nm_r (nI_1 m) (ih (m + 1) _ _ _ _ _ _ _ _ _ _ (by omega) (by omega) (sq_lst_n hl ⟨hz, hG.mp hr⟩ g4))))
                · have h4 : ¬ r = -4 := by
                    have h5 := hPY _ _ ((hLS'.2 _).mpr ⟨i, hi, rfl⟩)
                    have := nI_pos (n := la' i) (by omega)
                    rw [← e] at this
                    exact fun w => this (by rw [w]; decide)
                  exact br_f h4 (nm_r (nI_1 m) (ih (m + 1) l _ _ _ _ _ _ _ _ _ (by omega) (by omega) (sq_lst_k hl (fun w => absurd (hG.mpr w.2 i hi) hr))))
              · subst e
                exact br_t rfl (nm_r (nI_1 m) (ih (m + 1) l _ _ _ _ _ _ _ _ _ (by omega) (by omega) (sq_lst_k hl (fun w => absurd w.1 hz))))
            · have s62 : ∀ y : Int32, ((y = 1 ∧ (i + 1 < n ∧ ow i = ow (i + 1))) ∨ (y = 0 ∧ ¬ (i + 1 < n ∧ ow i = ow (i + 1)))) → wY_fencesNeeded_62 post (wY_fencesNeeded_10 post N) (wY_fencesNeeded_21 post (wY_fencesNeeded_10 post N) (nI l) (nI m) (nI n) 0 sc lc li (nI S) (sq_nA kd) (sq_nA ow) (sq_nA vr) (sq_nA vl) st ld fo pl A la (sq_nA ss) K) (nI l) (nI m) z (nI i) y (nI n) 0 sc lc li (nI S) (sq_nA kd) (sq_nA ow) (sq_nA vr) (sq_nA vl) st ld fo pl A la (sq_nA ss) := by
                intro y hy
                rcases hz with ⟨e, hz⟩ | ⟨e, hz⟩
                · subst e
                  have mk : (bt (nI m) i = true → i + 1 < n ∧ ow i = ow (i + 1)) → sq_btw n ow m (i + 1) := by
                    intro w b hb hbt
                    by_cases e : b = i
                    · rw [e]; rw [e] at hbt; exact w hbt
                    · exact hz b (by omega) hbt
                  refine br_f (by decide) (ek_if (sq_bit0 (nI m) (k := i) (by omega)) (fun w => nm_r (nI_1 i) (ihK (i + 1) 1 (by omega) (by omega) (Or.inl ⟨rfl, mk (fun v => by rw [w] at v; exact absurd v (by decide))⟩))) (fun w => ?_))
                  have w' : bt (nI m) i = true := by
                    cases hh : bt (nI m) i
                    · exact absurd hh w
                    · rfl
                  rcases hy with ⟨e, hy⟩ | ⟨e, hy⟩
                  · subst e
                    exact br_f (by decide) (nm_r (nI_1 i) (ihK (i + 1) 1 (by omega) (by omega) (Or.inl ⟨rfl, mk (fun _ => hy)⟩)))
                  · subst e
                    exact br_t rfl (nm_r (nI_1 i) (ihK (i + 1) 0 (by omega) (by omega) (Or.inr ⟨rfl, fun v => hy (v i (by omega) w')⟩)))
                · subst e
                  exact br_t rfl (nm_r (nI_1 i) (ihK (i + 1) 0 (by omega) (by omega) (Or.inr ⟨rfl, fun v => hz (fun b hb => v b (by omega))⟩)))
              have hwi := hw i
              have hwi1 := hw (i + 1)
              have e1 : nI i + 1 = nI (i + 1) := nI_1 i
              refine pk_le n (i + 1) (fun k4 => s62 0 (Or.inr ⟨rfl, fun v => by omega⟩)) (fun k4 => ⟨pk_in i 6 (by omega), pk_in (i + 1) 6 (by omega) e1, pk_eq (ow i) (ow (i + 1)) (fun k5 => s62 1 (Or.inl ⟨rfl, k4, k5⟩)) (fun k5 => s62 0 (Or.inr ⟨rfl, fun v => k5 v.2⟩)) (sq_at ow (by omega)) (by rw [e1]; exact sq_at ow (by omega)) (by omega) (by omega)⟩) rfl e1
        exact inn 6 0 1 (by omega) (by omega) (Or.inl ⟨rfl, fun b hb => by omega⟩)
  exact ⟨33, key 33 0 6 _ _ _ _ _ _ _ _ _ (by omega) (by omega) (sq_lst_0 _)⟩
end
/-! only fences between two instructions of one thread matter -/
theorem sq_E_in {n : Nat} {ow kd : Nat → Nat} {F G : Nat → Bool} (hn : n ≤ 6) (hso : ∀ i j, i < j → j < n → ow i ≤ ow j) (hG : ∀ b, b < 5 → b + 1 < n → ow b = ow (b + 1) → G b = F b) (hG2 : ∀ b, b < 5 → G b = true → F b = true) {i j : Nat} (hj : j < n) : sq_E ow kd F i j ↔ sq_E ow kd G i j := by
  constructor
  · rintro ⟨a, b, c⟩
    refine ⟨a, b, c.imp id (fun d => d.imp id (fun ⟨x, y1, y2, y3⟩ => ⟨x, y1, y2, ?_⟩))⟩
    have h1 : ow i ≤ ow x := by
      by_cases e : i = x
      · rw [e]; exact Nat.le_refl _
      · exact hso i x (by omega) (by omega)
    have h2 := hso x (x + 1) (by omega) (by omega)
    have h3 : ow (x + 1) ≤ ow j := by
      by_cases e : x + 1 = j
      · rw [e]; exact Nat.le_refl _
      · exact hso (x + 1) j (by omega) hj
    rw [hG x (by omega) (by omega) (by omega)]
    exact y3
  · rintro ⟨a, b, c⟩
    exact ⟨a, b, c.imp id (fun d => d.imp id (fun ⟨x, y1, y2, y3⟩ => ⟨x, y1, y2, hG2 x (by omega) y3⟩))⟩
theorem sq_PX_in {n : Nat} {ow kd vr vl : Nat → Nat} {F G : Nat → Bool} (hn : n ≤ 6) (hso : ∀ i j, i < j → j < n → ow i ≤ ow j) (hG : ∀ b, b < 5 → b + 1 < n → ow b = ow (b + 1) → G b = F b) (hG2 : ∀ b, b < 5 → G b = true → F b = true) (o : Nat) : sq_PX n ow kd vr vl F o ↔ sq_PX n ow kd vr vl G o := by
  constructor
  · rintro ⟨q, hm, hv, e⟩
    exact ⟨q, hm, fun t ht i hi => hv t ht i ((sq_E_in hn hso hG hG2 (hm t ht).1).mpr hi), e⟩
  · rintro ⟨q, hm, hv, e⟩
    exact ⟨q, hm, fun t ht i hi => hv t ht i ((sq_E_in hn hso hG hG2 (hm t ht).1).mp hi), e⟩
theorem sq_five : ∀ a b c d e : Bool, bt (nI (a.toNat + 2 * b.toNat + 4 * c.toNat + 8 * d.toNat + 16 * e.toNat)) 0 = a ∧ bt (nI (a.toNat + 2 * b.toNat + 4 * c.toNat + 8 * d.toNat + 16 * e.toNat)) 1 = b ∧ bt (nI (a.toNat + 2 * b.toNat + 4 * c.toNat + 8 * d.toNat + 16 * e.toNat)) 2 = c ∧ bt (nI (a.toNat + 2 * b.toNat + 4 * c.toNat + 8 * d.toNat + 16 * e.toNat)) 3 = d ∧ bt (nI (a.toNat + 2 * b.toNat + 4 * c.toNat + 8 * d.toNat + 16 * e.toNat)) 4 = e ∧ bt (nI (a.toNat + 2 * b.toNat + 4 * c.toNat + 8 * d.toNat + 16 * e.toNat)) 5 = false ∧ a.toNat + 2 * b.toNat + 4 * c.toNat + 8 * d.toNat + 16 * e.toNat < 32 := by decide +kernel
theorem sq_mk5 (g : Nat → Bool) : ∃ m, m < 32 ∧ (∀ b, b < 5 → bt (nI m) b = g b) ∧ bt (nI m) 5 = false := by
  obtain ⟨h0, h1, h2, h3, h4, h5, h6⟩ := sq_five (g 0) (g 1) (g 2) (g 3) (g 4)
  refine ⟨_, h6, fun b hb => ?_, h5⟩
  have : b = 0 ∨ b = 1 ∨ b = 2 ∨ b = 3 ∨ b = 4 := by omega
  rcases this with e | e | e | e | e
  · rw [e]; exact h0
  · rw [e]; exact h1
  · rw [e]; exact h2
  · rw [e]; exact h3
  · rw [e]; exact h4
theorem sq_lst_eq {n : Nat} {ow kd vr vl : Nat → Nat} (hW : sq_W n ow kd vr vl) {Q Q' : Nat → Prop} (hQ : ∀ o, Q o ↔ Q' o) {l l' : Nat} (h : sq_lst (fun m => ∀ o, sq_PX n ow kd vr vl (bt (nI m)) o → Q o) 32 l) (h' : sq_lst (fun m => sq_btw n ow m 5 ∧ ∀ o, sq_PY n ow kd vr vl false (bt (nI m)) o → Q' o) 32 l') : l' = l := by
  obtain ⟨hn, _, _, _, _, hso⟩ := id hW
  have hbr : ∀ m, (∀ o, sq_PX n ow kd vr vl (bt (nI m)) o → Q o) ↔ ∀ o, sq_PY n ow kd vr vl false (bt (nI m)) o → Q' o := by
    intro m
    have hb := sq_bridge hW (S := false) (F := bt (nI m)) (X := bt (nI m)) (Or.inr ⟨rfl, fun _ _ => rfl⟩)
    exact ⟨fun z o ho => (hQ o).mp (z o ((hb o).mpr ho)), fun z o ho => (hQ o).mpr (z o ((hb o).mp ho))⟩
  obtain ⟨a1, a2, a3⟩ := h
  obtain ⟨b1, b2, b3⟩ := h'
  apply Nat.le_antisymm
  · rcases a2 with e | ⟨r, hr, hg, e⟩
    · omega
    · obtain ⟨m, hm, hm1, hm5⟩ := sq_mk5 (fun b => bt (nI r) b && decide (b + 1 < n ∧ ow b = ow (b + 1)))
      have hbt : sq_btw n ow m 5 := by
        intro b hb hbt
        rw [hm1 b hb, Bool.and_eq_true, decide_eq_true_eq] at hbt
        exact hbt.2
      have hin := sq_PX_in (n := n) (ow := ow) (kd := kd) (vr := vr) (vl := vl) (F := bt (nI r)) (G := bt (nI m)) hn hso (fun b x y z => by rw [hm1 b x, decide_eq_true ⟨y, z⟩, Bool.and_true]) (fun b x y => by rw [hm1 b x, Bool.and_eq_true] at y; exact y.1)
      have hle : sq_cn (bt (nI m)) 6 ≤ sq_cn (bt (nI r)) 6 := by
        refine sq_cn_sub (fun i hi z => ?_)
        by_cases e : i = 5
        · rw [e, hm5] at z; exact absurd z (by decide)
        · rw [hm1 i (by omega), Bool.and_eq_true] at z; exact z.1
      have := b3 m hm ⟨hbt, (hbr m).mp (fun o ho => hg o ((hin o).mpr ho))⟩
      omega
  · rcases b2 with e | ⟨r, hr, hg, e⟩
    · omega
    · have := a3 r hr ((hbr r).mpr hg.2)
      omega
