/-! the reference: outcomeNow, setOrder, setFound, note -/
theorem sq_pow : ∀ k, k < 9 → (1 : Int32) <<< ((2 * nI k) &&& 31) = nI (2 ^ (2 * k)) := by decide +kernel
theorem sq_f0 {n : Nat} {kd vl : Nat → Nat} (hl4 : ∀ i, vl i < 4) (Fo : Nat → Option Nat) : ∃ f : Nat → Nat, (∀ d, f d < 4) ∧ (∀ j, j < n → kd j = 1 → f (sq_cn (sq_ll kd) j) = sq_vo vl (Fo j)) ∧ (∀ k, (∀ j, j < n → kd j = 1 → sq_cn (sq_ll kd) j ≠ k) → f k = 0) := by
  have hv : ∀ o, sq_vo vl o < 4 := by
    intro o
    cases o with
    | none => show 0 < 4; decide
    | some s => exact hl4 s
  have h : ∀ k, ∃ v, v < 4 ∧ (∀ j, j < n → kd j = 1 → sq_cn (sq_ll kd) j = k → v = sq_vo vl (Fo j)) ∧ ((∀ j, j < n → kd j = 1 → sq_cn (sq_ll kd) j ≠ k) → v = 0) := by
    intro k
    by_cases c : ∃ j, j < n ∧ kd j = 1 ∧ sq_cn (sq_ll kd) j = k
    · obtain ⟨j, h1, h2, h3⟩ := c
      refine ⟨sq_vo vl (Fo j), hv _, fun i a b c => ?_, fun z => absurd h3 (z j h1 h2)⟩
      rw [sq_ldI b h2 (c.trans h3.symm)]
    · exact ⟨0, by decide, fun j a b d => absurd ⟨j, a, b, d⟩ c, fun _ => rfl⟩
  exact ⟨fun k => Classical.choose (h k), fun k => (Classical.choose_spec (h k)).1, fun j a b => (Classical.choose_spec (h (sq_cn (sq_ll kd) j))).2.1 j a b rfl, fun k hk => (Classical.choose_spec (h k)).2.2 hk⟩
theorem sq_sm_z {f : Nat → Nat} {a : Nat} : ∀ b, a ≤ b → (∀ d, a ≤ d → d < b → f d = 0) → sq_sm f b = sq_sm f a := by
  intro b
  induction b with
  | zero => intro h _; have : a = 0 := by omega
            rw [this]
  | succ b ih =>
    intro h hz
    by_cases e : a = b + 1
    · rw [e]
    · rw [sq_sm_s, hz b (by omega) (by omega), ih (by omega) (fun d x y => hz d x (by omega))]
      omega
theorem sq_mx_uniq {n : Nat} {kd vr P : Nat → Nat} (hP : ∀ a b, a < n → b < n → kd a = 0 → kd b = 0 → P a = P b → a = b) {x : Nat} {o1 o2 : Option Nat} (h1 : sq_mx n kd vr P x o1) (h2 : sq_mx n kd vr P x o2) : o1 = o2 := by
  cases o1 with
  | none =>
    cases o2 with
    | none => rfl
    | some s => exact absurd h2.2.2.1 (h1 s h2.1 h2.2.1)
  | some r =>
    cases o2 with
    | none => exact absurd h1.2.2.1 (h2 r h1.1 h1.2.1)
    | some s =>
      obtain ⟨a1, a2, a3, a4⟩ := h1
      obtain ⟨b1, b2, b3, b4⟩ := h2
      have x1 := a4 s b1 b2 b3
      have x2 := b4 r a1 a2 a3
      rw [hP r s a1 b1 a2 b2 (by omega)]
theorem sq_dg_uniq {n : Nat} {kd vr vl P : Nat → Nat} {Fo : Nat → Option Nat} (hP : ∀ a b, a < n → b < n → kd a = 0 → kd b = 0 → P a = P b → a = b) {f g : Nat → Nat} (h1 : sq_dg n kd vr vl P Fo f) (h2 : sq_dg n kd vr vl P Fo g) : sq_sm f 9 = sq_sm g 9 := by
  obtain ⟨a1, a2, a3⟩ := h1
  obtain ⟨b1, b2, b3⟩ := h2
  apply sq_sm_ext
  intro d hd
  by_cases h6 : d < 6
  · by_cases c : ∃ j, j < n ∧ kd j = 1 ∧ sq_sl kd vr j = d
    · obtain ⟨j, x, y, z⟩ := c
      rw [← z, a1 j x y, b1 j x y]
    · have c' : ∀ j, j < n → kd j = 1 → sq_sl kd vr j ≠ d := fun j x y z => c ⟨j, x, y, z⟩
      rw [a2 d h6 c', b2 d h6 c']
  · have ed : d = 6 + (d - 6) := by omega
    rw [ed]
    obtain ⟨o, ho, e⟩ := a3 (d - 6) (by omega)
    obtain ⟨o', ho', e'⟩ := b3 (d - 6) (by omega)
    rw [e, e', sq_mx_uniq hP ho ho']
section
variable {n : Nat} {ow kd vr vl : Nat → Nat} {yf_fences yf_storeCount yf_loadCount yf_listed yf_strictListed : Int32} {ya_stores ya_loads ya_found ya_place ya_after ya_list ya_strictList : Nat → Int32}
theorem sq_yNow {P : Nat → Nat} {Fo : Nat → Option Nat} {post : Int32 → Prop} (hW : sq_W n ow kd vr vl) (hSt : sq_St n kd ya_stores) (hPl : sq_Pl n kd P ya_place) (hFd : sq_Fd n kd Fo ya_found)
    (h : ∀ f : Nat → Nat, (∀ d, f d < 4) → sq_dg n kd vr vl P Fo f → post (nI (sq_sm f 9))) : wpY_outcomeNow post ((nI n), yf_fences, (nI (sq_cn (sq_ls kd) n)), (nI (sq_cn (sq_ll kd) n)), yf_listed, yf_strictListed, (sq_nA kd), (sq_nA ow), (sq_nA vr), (sq_nA vl), ya_stores, ya_loads, ya_found, ya_place, ya_after, ya_list, ya_strictList) := by
  obtain ⟨hn, hw, hk3, hv3, hl4, hso⟩ := id hW
  have hlc := sq_cn_le (sq_ll kd) n
  have hsc := sq_cn_le (sq_ls kd) n
  have hs6 : ∀ i, i < n → sq_cn (sq_ls kd) i < 6 := fun i hi => by have := sq_cn_le (sq_ls kd) i; omega
  have est : ∀ i, i < n → kd i = 0 → ya_stores (nI (sq_cn (sq_ls kd) i)).toNatClampNeg = nI i := fun i hi h => by have := hs6 i hi; rw [nI_clamp (by omega)]; exact hSt i hi h
  have epl : ∀ i, i < n → kd i = 0 → ya_place (nI (sq_cn (sq_ls kd) i)).toNatClampNeg = nI (P i) := fun i hi h => by have := hs6 i hi; rw [nI_clamp (by omega)]; exact (hPl i hi h).1
  have evl : ∀ i, i < n → sq_nA vl (nI i).toNatClampNeg = nI (vl i) := fun i hi => sq_at vl (by omega)
  have evr : ∀ i, i < n → sq_nA vr (nI i).toNatClampNeg = nI (vr i) := fun i hi => sq_at vr (by omega)
  obtain ⟨f0, hf4, hf1, hf2⟩ := sq_f0 (n := n) (kd := kd) hl4 Fo
  have esl : ∀ j, kd j = 1 → sq_sl kd vr j = sq_cn (sq_ll kd) j := fun j hj => if_pos hj
  -- the memory
  have inn : ∀ {J : Int32 → Int32 → Prop} (f : Nat → Nat) (x : Nat), x < 3 → (∀ v o, sq_mx n kd vr P x o → v = sq_vo vl o → J (nI (sq_sm (sq_up f (6 + x) v) (6 + x + 1))) (nI (x + 1))) → ∀ N s (y : Int32), sq_cn (sq_ls kd) n - s < N → s ≤ sq_cn (sq_ls kd) n → ((y = -1 ∧ ∀ i, i < n → kd i = 0 → vr i = x → ¬ sq_cn (sq_ls kd) i < s) ∨ ∃ i, y = nI (sq_cn (sq_ls kd) i) ∧ i < n ∧ kd i = 0 ∧ vr i = x ∧ ∀ l, l < n → kd l = 0 → vr l = x → sq_cn (sq_ls kd) l < s → P l ≤ P i) → wY_outcomeNow_68 post J (nI (sq_sm f (6 + x))) (nI x) (nI n) yf_fences (nI (sq_cn (sq_ls kd) n)) (nI (sq_cn (sq_ll kd) n)) yf_listed yf_strictListed (sq_nA kd) (sq_nA ow) (sq_nA vr) (sq_nA vl) ya_stores ya_loads ya_found ya_place ya_after ya_list ya_strictList N y (nI s) := by
    intro J f x hx hJ N
    induction N with
    | zero => intro s y g; omega
    | succ N ih =>
      intro s y g1 g2 hy
      have eup : ∀ v, sq_sm (sq_up f (6 + x) v) (6 + x + 1) = 2 ^ (2 * (6 + x)) * v + sq_sm f (6 + x) := by
        intro v
        rw [sq_sm_s, sq_up_s, sq_sm_ext (g := f) (fun d hd => sq_up_n f v (by omega))]
      refine pk_le (sq_cn (sq_ls kd) n) s (fun g3 => ?_) (fun g3 => ?_)
      · rcases hy with ⟨e, hy⟩ | ⟨i, e, hi, hi0, hix, hy⟩
        · subst e
          refine br_f (by decide) (nm_r (nI_1 x) ?_)
          have := hJ 0 none (fun i a b c => hy i a b c (by have := sq_stL a b; omega)) rfl
          rw [eup, Nat.mul_zero, Nat.zero_add] at this
          exact this
        · subst e
          have h6 := hs6 i hi
          have ea := est i hi hi0
          refine br_t (nI_pos' (by omega)) ⟨pk_in (sq_cn (sq_ls kd) i) 6 h6, pk_in i 6 (by omega) ea, nm_r ?_ (nm_r (nI_1 x) (hJ (vl i) (some i) ⟨hi, hi0, hix, fun l a b c => hy l a b c (by have := sq_stL a b; omega)⟩ rfl))⟩
          rw [ea, evl i hi, sq_pow x (by omega), eup]
          have e1 : (4096 : Int32) * nI (2 ^ (2 * x)) = nI (4096 * 2 ^ (2 * x)) := pk_mul 4096 _
          have e2 : 4096 * 2 ^ (2 * x) = 2 ^ (2 * (6 + x)) := by
            rw [show 2 * (6 + x) = 12 + 2 * x from by omega, Nat.pow_add]
          rw [e1, pk_mul, nI_add, e2, Nat.add_comm]
      · obtain ⟨i, hi, hi0, ei⟩ := sq_stA g3
        subst ei
        have h6 := hs6 i hi
        have ea := est i hi hi0
        have hvi := hv3 i
        have hpi := (hPl i hi hi0).2
        have snew : vr i = x → (∀ l, l < n → kd l = 0 → vr l = x → sq_cn (sq_ls kd) l < sq_cn (sq_ls kd) i → P l ≤ P i) → wY_outcomeNow_68 post J (nI (sq_sm f (6 + x))) (nI x) (nI n) yf_fences (nI (sq_cn (sq_ls kd) n)) (nI (sq_cn (sq_ll kd) n)) yf_listed yf_strictListed (sq_nA kd) (sq_nA ow) (sq_nA vr) (sq_nA vl) ya_stores ya_loads ya_found ya_place ya_after ya_list ya_strictList N (nI (sq_cn (sq_ls kd) i)) (nI (sq_cn (sq_ls kd) i + 1)) := by
          intro hv hl
          refine ih _ _ (by omega) (by omega) (Or.inr ⟨i, rfl, hi, hi0, hv, fun l a b c d => ?_⟩)
          by_cases e : l = i
          · rw [e]; exact Nat.le_refl _
          · have : sq_cn (sq_ls kd) l ≠ sq_cn (sq_ls kd) i := fun w => e (sq_stI b hi0 w)
            exact hl l a b c (by omega)
        have sold : (vr i = x → ∃ r, y = nI (sq_cn (sq_ls kd) r) ∧ r < n ∧ kd r = 0 ∧ P i ≤ P r) → wY_outcomeNow_68 post J (nI (sq_sm f (6 + x))) (nI x) (nI n) yf_fences (nI (sq_cn (sq_ls kd) n)) (nI (sq_cn (sq_ll kd) n)) yf_listed yf_strictListed (sq_nA kd) (sq_nA ow) (sq_nA vr) (sq_nA vl) ya_stores ya_loads ya_found ya_place ya_after ya_list ya_strictList N y (nI (sq_cn (sq_ls kd) i + 1)) := by
          intro hno
          refine ih _ y (by omega) (by omega) ?_
          rcases hy with ⟨e, hy⟩ | ⟨r, e, hr, hr0, hrx, hy⟩
          · left
            refine ⟨e, fun l a b c d => ?_⟩
            by_cases e2 : l = i
            · obtain ⟨r, er, hr, _, _⟩ := hno (e2 ▸ c)
              rw [e] at er
              have := nI_pos (n := sq_cn (sq_ls kd) r) (by have := hs6 r hr; omega)
              rw [← er] at this
              exact this (by decide)
            · have : sq_cn (sq_ls kd) l ≠ sq_cn (sq_ls kd) i := fun w => e2 (sq_stI b hi0 w)
              exact hy l a b c (by omega)
          · right
            refine ⟨r, e, hr, hr0, hrx, fun l a b c d => ?_⟩
            by_cases e2 : l = i
            · obtain ⟨r', er, hr', hr0', hle⟩ := hno (e2 ▸ c)
              rw [e] at er
              have x1 := hs6 r hr
              have x2 := hs6 r' hr'
              rw [nI_eq (by omega) (by omega)] at er
              rw [e2, sq_stI hr0 hr0' er]
              exact hle
            · have : sq_cn (sq_ls kd) l ≠ sq_cn (sq_ls kd) i := fun w => e2 (sq_stI b hi0 w)
              exact hy l a b c (by omega)
        rcases hy with ⟨e, hy⟩ | ⟨r, e, hr, hr0, hrx, hy⟩
        · subst e
          refine br_t (by decide) ⟨pk_in (sq_cn (sq_ls kd) i) 6 h6, pk_in i 6 (by omega) ea, pk_eq (vr i) x (fun g4 => br_f (by decide) (nm_r (nI_1 _) (snew g4 (fun l a b c d => absurd d (hy l a b c))))) (fun g4 => nm_r (nI_1 _) (sold (fun z => absurd z g4))) (by rw [ea]; exact evr i hi) rfl (by omega) (by omega)⟩
        · subst e
          have hr6 := hs6 r hr
          have hpr := (hPl r hr hr0).2
          refine br_f (nI_pos (by omega)) ⟨pk_in (sq_cn (sq_ls kd) i) 6 h6, pk_in (sq_cn (sq_ls kd) r) 6 hr6, pk_le (P i) (P r) (fun g4 => ?_) (fun g4 => ?_) (epl i hi hi0) (epl r hr hr0) (by omega) (by omega)⟩
          · exact ⟨pk_in (sq_cn (sq_ls kd) i) 6 h6, pk_in i 6 (by omega) ea, pk_eq (vr i) x (fun g5 => br_t rfl (nm_r (nI_1 _) (sold (fun _ => ⟨r, rfl, hr, hr0, g4⟩)))) (fun g5 => nm_r (nI_1 _) (sold (fun z => absurd z g5))) (by rw [ea]; exact evr i hi) rfl (by omega) (by omega)⟩
          · exact ⟨pk_in (sq_cn (sq_ls kd) i) 6 h6, pk_in i 6 (by omega) ea, pk_eq (vr i) x (fun g5 => br_f (by decide) (nm_r (nI_1 _) (snew g5 (fun l a b c d => by have := hy l a b c d; omega)))) (fun g5 => nm_r (nI_1 _) (sold (fun z => absurd z g5))) (by rw [ea]; exact evr i hi) rfl (by omega) (by omega)⟩
  have hvo : ∀ o, sq_vo vl o < 4 := by
    intro o
    cases o with
    | none => show 0 < 4; decide
    | some s => exact hl4 s
  have mem : ∀ N x (f : Nat → Nat), 3 - x < N → x ≤ 3 → (∀ d, f d < 4) → (∀ d, d < 6 → f d = f0 d) → (∀ y, y < x → ∃ o, sq_mx n kd vr P y o ∧ f (6 + y) = sq_vo vl o) → wY_outcomeNow_58 post (nI n) yf_fences (nI (sq_cn (sq_ls kd) n)) (nI (sq_cn (sq_ll kd) n)) yf_listed yf_strictListed (sq_nA kd) (sq_nA ow) (sq_nA vr) (sq_nA vl) ya_stores ya_loads ya_found ya_place ya_after ya_list ya_strictList N (nI (sq_sm f (6 + x))) (nI x) := by
    intro N
    induction N with
    | zero => intro x f g; omega
    | succ N ih =>
      intro x f g1 g2 hf hfe hfm
      refine pk_le 3 x (fun g3 => ?_) (fun g3 => Exists.intro (sq_cn (sq_ls kd) n + 1) ?_)
      · have ex : x = 3 := by omega
        subst ex
        refine h f hf ⟨fun j a b => ?_, fun k hk hz => ?_, hfm⟩
        · have := sq_ldL a b
          rw [esl j b, hfe _ (by omega)]
          exact hf1 j a b
        · rw [hfe k hk]
          exact hf2 k (fun j a b c => hz j a b (by rw [esl j b]; exact c))
      · refine inn f x (by omega) (fun v o ho hv => ?_) (sq_cn (sq_ls kd) n + 1) 0 (-1) (by omega) (by omega) (Or.inl ⟨rfl, fun i _ _ _ => Nat.not_lt_zero _⟩)
        refine ih (x + 1) (sq_up f (6 + x) v) (by omega) (by omega) (sq_up4 hf (by rw [hv]; exact hvo o)) (fun d hd => ?_) (fun y hy => ?_)
        · rw [sq_up_n _ _ (by omega)]; exact hfe d hd
        · by_cases e : y = x
          · subst e
            exact ⟨o, ho, by rw [sq_up_s]; exact hv⟩
          · obtain ⟨o', a, b⟩ := hfm y (by omega)
            exact ⟨o', a, by rw [sq_up_n _ _ (by omega)]; exact b⟩
  have lod : ∀ N k, sq_cn (sq_ll kd) n - k < N → k ≤ sq_cn (sq_ll kd) n → wY_outcomeNow_4 post (nI n) yf_fences (nI (sq_cn (sq_ls kd) n)) (nI (sq_cn (sq_ll kd) n)) yf_listed yf_strictListed (sq_nA kd) (sq_nA ow) (sq_nA vr) (sq_nA vl) ya_stores ya_loads ya_found ya_place ya_after ya_list ya_strictList N (nI (sq_sm f0 k)) (nI k) := by
    intro N
    induction N with
    | zero => intro k g; omega
    | succ N ih =>
      intro k g1 g2
      refine pk_le (sq_cn (sq_ll kd) n) k (fun g3 => Exists.intro 4 ?_) (fun g3 => ⟨pk_in k 6 (by omega), ?_⟩)
      · have ek : k = sq_cn (sq_ll kd) n := by omega
        have := mem 4 0 f0 (by omega) (by omega) hf4 (fun _ _ => rfl) (fun y hy => by omega)
        rw [Nat.add_zero, sq_sm_z (a := k) 6 (by omega) (fun d a b => hf2 d (fun j x y z => by have := sq_ldL x y; omega))] at this
        exact this
      · obtain ⟨j, hj, hj1, ej⟩ := sq_ldA g3
        have hfj := hf1 j hj hj1
        have hk1 := ih (k + 1) (by omega) (by omega)
        rw [sq_sm_s] at hk1
        rcases hFd j hj hj1 with ⟨ef, efo⟩ | ⟨s, hs, hs0, ef, efo⟩
        · have e1 : ya_found (nI k).toNatClampNeg = -1 := by rw [nI_clamp (by omega), ← ej]; exact efo
          rw [ej, ef] at hfj
          have hfj' : f0 k = 0 := hfj
          rw [hfj', Nat.mul_zero, Nat.zero_add] at hk1
          exact br_f (by rw [e1]; decide) (nm_r (nI_1 k) hk1)
        · have e1 : ya_found (nI k).toNatClampNeg = nI (sq_cn (sq_ls kd) s) := by rw [nI_clamp (by omega), ← ej]; exact efo
          rw [ej, ef] at hfj
          have hfj' : f0 k = vl s := hfj
          rw [hfj'] at hk1
          have h6 := hs6 s hs
          have ea := est s hs hs0
          refine br_t (by rw [e1]; exact nI_pos' (by omega)) ⟨pk_in k 6 (by omega), pk_in (sq_cn (sq_ls kd) s) 6 h6 e1, pk_in s 6 (by omega) (by rw [e1]; exact ea), nm_r ?_ (nm_r (nI_1 k) hk1)⟩
          rw [e1, ea, evl s hs, sq_pow k (by omega), pk_mul, nI_add, Nat.add_comm]
  exact Exists.intro (sq_cn (sq_ll kd) n + 1) (lod (sq_cn (sq_ll kd) n + 1) 0 (by omega) (by omega))
end
