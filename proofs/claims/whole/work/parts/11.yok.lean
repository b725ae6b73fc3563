/-! the reference: orderStores, mayFind, relateLoad -/
def sq_Pl (n : Nat) (kd P : Nat → Nat) (pl : Nat → Int32) : Prop := ∀ i, i < n → kd i = 0 → pl (sq_cn (sq_ls kd) i) = nI (P i) ∧ P i < 6
def sq_Fd (n : Nat) (kd : Nat → Nat) (Fo : Nat → Option Nat) (fo : Nat → Int32) : Prop := ∀ j, j < n → kd j = 1 → (Fo j = none ∧ fo (sq_cn (sq_ll kd) j) = -1) ∨ ∃ s, s < n ∧ kd s = 0 ∧ Fo j = some s ∧ fo (sq_cn (sq_ll kd) j) = nI (sq_cn (sq_ls kd) s)
theorem sq_stA {n : Nat} {kd : Nat → Nat} {s : Nat} (h : s < sq_cn (sq_ls kd) n) : ∃ i, i < n ∧ kd i = 0 ∧ sq_cn (sq_ls kd) i = s := by
  obtain ⟨i, a, b, c⟩ := sq_cn_at h
  exact ⟨i, a, sq_lsT.mp b, c⟩
theorem sq_ldA {n : Nat} {kd : Nat → Nat} {s : Nat} (h : s < sq_cn (sq_ll kd) n) : ∃ i, i < n ∧ kd i = 1 ∧ sq_cn (sq_ll kd) i = s := by
  obtain ⟨i, a, b, c⟩ := sq_cn_at h
  exact ⟨i, a, sq_llT.mp b, c⟩
theorem sq_stL {n : Nat} {kd : Nat → Nat} {i : Nat} (hi : i < n) (h : kd i = 0) : sq_cn (sq_ls kd) i < sq_cn (sq_ls kd) n := sq_cn_lo (sq_lsT.mpr h) hi
theorem sq_ldL {n : Nat} {kd : Nat → Nat} {i : Nat} (hi : i < n) (h : kd i = 1) : sq_cn (sq_ll kd) i < sq_cn (sq_ll kd) n := sq_cn_lo (sq_llT.mpr h) hi
theorem sq_stI {kd : Nat → Nat} {i j : Nat} (hi : kd i = 0) (hj : kd j = 0) (h : sq_cn (sq_ls kd) i = sq_cn (sq_ls kd) j) : i = j := sq_cn_inj (sq_lsT.mpr hi) (sq_lsT.mpr hj) h
theorem sq_ldI {kd : Nat → Nat} {i j : Nat} (hi : kd i = 1) (hj : kd j = 1) (h : sq_cn (sq_ll kd) i = sq_cn (sq_ll kd) j) : i = j := sq_cn_inj (sq_llT.mpr hi) (sq_llT.mpr hj) h
theorem sq_or1 {A : Nat → Int32} {k c x b : Nat} (hc : c < 32) (hb : b < 32) : bt (upd A k (A k ||| ((1 : Int32) <<< (nI c &&& 31))) x) b = true ↔ bt (A x) b = true ∨ (x = k ∧ b = c) := by
  by_cases e : x = k
  · rw [e, pk_us, sq_set _ hc hb, Bool.or_eq_true, decide_eq_true_eq]
    exact ⟨fun z => z.imp id (fun y => ⟨rfl, y⟩), fun z => z.imp id (fun y => y.2)⟩
  · rw [pk_un e]
    exact ⟨Or.inl, fun z => z.elim id (fun y => absurd y.1 e)⟩
section
variable {n : Nat} {ow kd vr vl : Nat → Nat} {yf_fences yf_storeCount yf_loadCount yf_listed yf_strictListed : Int32} {ya_stores ya_loads ya_found ya_place ya_after ya_list ya_strictList : Nat → Int32}
theorem sq_yOrdI {P : Nat → Nat} {a : Nat} {post : SY → Prop} {J2 : Int32 → (Nat → Int32) → (Nat → Int32) → (Nat → Int32) → (Nat → Int32) → (Nat → Int32) → (Nat → Int32) → (Nat → Int32) → (Nat → Int32) → (Nat → Int32) → (Nat → Int32) → (Nat → Int32) → Prop} (hn : n ≤ 6) (hv3 : ∀ i, vr i < 3) (hSt : sq_St n kd ya_stores) (hPl : sq_Pl n kd P ya_place) (ha : a < n) (ha0 : kd a = 0) (A0 : Nat → Int32)
    (hJ : ∀ A' : Nat → Int32, (∀ x c, x < n → c < 32 → (bt (A' x) c = true ↔ bt (A0 x) c = true ∨ (x = a ∧ c < n ∧ kd c = 0 ∧ vr a = vr c ∧ P a < P c))) → J2 (nI (sq_cn (sq_ls kd) a + 1)) (sq_nA kd) (sq_nA ow) (sq_nA vr) (sq_nA vl) ya_stores ya_loads ya_found ya_place A' ya_list ya_strictList) :
    ∀ N t (A : Nat → Int32), sq_cn (sq_ls kd) n - t < N → t ≤ sq_cn (sq_ls kd) n → (∀ x c, x < n → c < 32 → (bt (A x) c = true ↔ bt (A0 x) c = true ∨ (x = a ∧ sq_cn (sq_ls kd) c < t ∧ c < n ∧ kd c = 0 ∧ vr a = vr c ∧ P a < P c))) → wY_orderStores_12 post J2 (nI (sq_cn (sq_ls kd) a)) (nI n) yf_fences (nI (sq_cn (sq_ls kd) n)) yf_loadCount yf_listed yf_strictListed N (nI t) (sq_nA kd) (sq_nA ow) (sq_nA vr) (sq_nA vl) ya_stores ya_loads ya_found ya_place A ya_list ya_strictList := by
  intro N
  induction N with
  | zero => intro t A h1; omega
  | succ N ih =>
    intro t A h1 h2 hA
    have hsc := sq_cn_le (sq_ls kd) n
    have hsa := sq_stL ha ha0
    have ea : ya_stores (nI (sq_cn (sq_ls kd) a)).toNatClampNeg = nI a := by rw [nI_clamp (by omega)]; exact hSt a ha ha0
    obtain ⟨epa, hpa⟩ := hPl a ha ha0
    have epa' : ya_place (nI (sq_cn (sq_ls kd) a)).toNatClampNeg = nI (P a) := by rw [nI_clamp (by omega)]; exact epa
    refine pk_le (sq_cn (sq_ls kd) n) t (fun h3 => nm_r (nI_1 _) (hJ A (fun x c hx hc => ?_))) (fun h3 => ?_)
    · rw [hA x c hx hc]
      constructor
      · rintro (z | z)
        · exact Or.inl z
        · exact Or.inr ⟨z.1, z.2.2⟩
      · rintro (z | z)
        · exact Or.inl z
        · exact Or.inr ⟨z.1, by have := sq_stL z.2.1 z.2.2.1; omega, z.2⟩
    · obtain ⟨b, hb, hb0, eb⟩ := sq_stA h3
      have eb' : ya_stores (nI t).toNatClampNeg = nI b := by rw [nI_clamp (by omega), ← eb]; exact hSt b hb hb0
      obtain ⟨epb, hpb⟩ := hPl b hb hb0
      have epb' : ya_place (nI t).toNatClampNeg = nI (P b) := by rw [nI_clamp (by omega), ← eb]; exact epb
      have hva := hv3 a
      have hvb := hv3 b
      have evr : ∀ i, i < n → sq_nA vr (nI i).toNatClampNeg = nI (vr i) := fun i hi => sq_at vr (by omega)
      have hstep : ∀ (A' : Nat → Int32), (∀ x c, x < n → c < 32 → (bt (A' x) c = true ↔ bt (A x) c = true ∨ (x = a ∧ c = b ∧ vr a = vr b ∧ P a < P b))) → wY_orderStores_12 post J2 (nI (sq_cn (sq_ls kd) a)) (nI n) yf_fences (nI (sq_cn (sq_ls kd) n)) yf_loadCount yf_listed yf_strictListed N (nI (t + 1)) (sq_nA kd) (sq_nA ow) (sq_nA vr) (sq_nA vl) ya_stores ya_loads ya_found ya_place A' ya_list ya_strictList := by
        intro A' hA'
        refine ih (t + 1) A' (by omega) (by omega) (fun x c hx hc => ?_)
        rw [hA' x c hx hc, hA x c hx hc]
        constructor
        · rintro ((z | z) | ⟨z1, z2, z3⟩)
          · exact Or.inl z
          · exact Or.inr ⟨z.1, by omega, z.2.2⟩
          · rw [z2]; exact Or.inr ⟨z1, by omega, hb, hb0, z3⟩
        · rintro (z | ⟨z1, z2, z3, z4, z5⟩)
          · exact Or.inl (Or.inl z)
          · by_cases e : c = b
            · right; rw [e] at z5; exact ⟨z1, e, z5⟩
            · left; right
              refine ⟨z1, ?_, z3, z4, z5⟩
              have : sq_cn (sq_ls kd) c ≠ t := fun y => e (sq_stI z4 hb0 (by omega))
              omega
      have s103 : ¬ (vr a = vr b ∧ P a < P b) → wY_orderStores_103 post J2 (wY_orderStores_12 post J2 (nI (sq_cn (sq_ls kd) a)) (nI n) yf_fences (nI (sq_cn (sq_ls kd) n)) yf_loadCount yf_listed yf_strictListed N) (nI (sq_cn (sq_ls kd) a)) (nI t) (ya_stores (nI (sq_cn (sq_ls kd) a)).toNatClampNeg) (nI n) yf_fences (nI (sq_cn (sq_ls kd) n)) yf_loadCount yf_listed yf_strictListed (sq_nA kd) (sq_nA ow) (sq_nA vr) (sq_nA vl) ya_stores ya_loads ya_found ya_place A ya_list ya_strictList := by
        intro hno
        refine ⟨pk_in (sq_cn (sq_ls kd) a) 6 (by omega), pk_in a 6 (by omega) ea, pk_in a 6 (by omega) ea, nm_r (sq_updS A _) (nm_r (nI_1 t) (hstep A (fun x c _ _ => ⟨Or.inl, fun z => z.elim id (fun y => absurd y.2.2 hno)⟩)))⟩
      refine ⟨pk_in (sq_cn (sq_ls kd) a) 6 (by omega), pk_in a 6 (by omega) ea, pk_in t 6 (by omega), pk_in b 6 (by omega) eb', pk_eq (vr a) (vr b) (fun g => ?_) (fun g => ?_) (by rw [ea]; exact evr a ha) (by rw [eb']; exact evr b hb) (by omega) (by omega)⟩
      · refine ⟨pk_in (sq_cn (sq_ls kd) a) 6 (by omega), br_f (by decide) ⟨pk_in (sq_cn (sq_ls kd) a) 6 (by omega), pk_in t 6 (by omega), pk_le (P b) (P a) (fun g2 => s103 (fun z => by omega)) (fun g2 => ?_) epb' epa' (by omega) (by omega)⟩⟩
        refine ⟨pk_in (sq_cn (sq_ls kd) a) 6 (by omega), pk_in a 6 (by omega) ea, pk_in t 6 (by omega), pk_in a 6 (by omega) ea, nm_e (nm_r (nI_1 t) (hstep _ (fun x c hx hc => ?_)))⟩
        rw [ea, eb', nI_clamp (by omega), sq_or1 (by omega) hc]
        exact ⟨fun z => z.imp id (fun y => ⟨y.1, y.2, g, g2⟩), fun z => z.imp id (fun y => ⟨y.1, y.2.1⟩)⟩
      · exact ⟨pk_in (sq_cn (sq_ls kd) a) 6 (by omega), br_t rfl (s103 (fun z => g z.1))⟩
theorem sq_yOrd {P : Nat → Nat} {post : SY → Prop} (hn : n ≤ 6) (hv3 : ∀ i, vr i < 3) (hSt : sq_St n kd ya_stores) (hPl : sq_Pl n kd P ya_place)
    (h : ∀ A' : Nat → Int32, (∀ x c, x < n → c < 32 → (bt (A' x) c = true ↔ bt (ya_after x) c = true ∨ (kd x = 0 ∧ c < n ∧ kd c = 0 ∧ vr x = vr c ∧ P x < P c))) → post ((nI n), yf_fences, (nI (sq_cn (sq_ls kd) n)), yf_loadCount, yf_listed, yf_strictListed, (sq_nA kd), (sq_nA ow), (sq_nA vr), (sq_nA vl), ya_stores, ya_loads, ya_found, ya_place, A', ya_list, ya_strictList)) : wpY_orderStores post ((nI n), yf_fences, (nI (sq_cn (sq_ls kd) n)), yf_loadCount, yf_listed, yf_strictListed, (sq_nA kd), (sq_nA ow), (sq_nA vr), (sq_nA vl), ya_stores, ya_loads, ya_found, ya_place, ya_after, ya_list, ya_strictList) := by
  have hsc := sq_cn_le (sq_ls kd) n
  have key : ∀ N s (A : Nat → Int32), sq_cn (sq_ls kd) n - s < N → s ≤ sq_cn (sq_ls kd) n → (∀ x c, x < n → c < 32 → (bt (A x) c = true ↔ bt (ya_after x) c = true ∨ (kd x = 0 ∧ sq_cn (sq_ls kd) x < s ∧ c < n ∧ kd c = 0 ∧ vr x = vr c ∧ P x < P c))) → wY_orderStores_2 post (nI n) yf_fences (nI (sq_cn (sq_ls kd) n)) yf_loadCount yf_listed yf_strictListed N (nI s) (sq_nA kd) (sq_nA ow) (sq_nA vr) (sq_nA vl) ya_stores ya_loads ya_found ya_place A ya_list ya_strictList := by
    intro N
    induction N with
    | zero => intro s A h1; omega
    | succ N ih =>
      intro s A h1 h2 hA
      refine pk_le (sq_cn (sq_ls kd) n) s (fun h3 => h A (fun x c hx hc => ?_)) (fun h3 => ?_)
      · rw [hA x c hx hc]
        constructor
        · rintro (z | z)
          · exact Or.inl z
          · exact Or.inr ⟨z.1, z.2.2⟩
        · rintro (z | z)
          · exact Or.inl z
          · exact Or.inr ⟨z.1, by have := sq_stL hx z.1; omega, z.2⟩
      · obtain ⟨a, ha, ha0, ea⟩ := sq_stA h3
        subst ea
        refine Exists.intro (sq_cn (sq_ls kd) n + 1) (sq_yOrdI hn hv3 hSt hPl ha ha0 A (fun A' hA' => ih _ A' (by omega) (by omega) (fun x c hx hc => ?_)) (sq_cn (sq_ls kd) n + 1) 0 A (by omega) (by omega) (fun x c hx hc => ⟨Or.inl, fun z => z.elim id (fun y => absurd y.2.1 (Nat.not_lt_zero _))⟩))
        rw [hA' x c hx hc, hA x c hx hc]
        constructor
        · rintro ((z | z) | ⟨z1, z2⟩)
          · exact Or.inl z
          · exact Or.inr ⟨z.1, by omega, z.2.2⟩
          · rw [z1]; exact Or.inr ⟨ha0, by omega, z2⟩
        · rintro (z | ⟨z1, z2, z3⟩)
          · exact Or.inl (Or.inl z)
          · by_cases e : x = a
            · right; rw [e] at z3; exact ⟨e, z3⟩
            · left; right
              have : sq_cn (sq_ls kd) x ≠ sq_cn (sq_ls kd) a := fun y => e (sq_stI z1 ha0 y)
              exact ⟨z1, by omega, z3⟩
  exact Exists.intro (sq_cn (sq_ls kd) n + 1) (key (sq_cn (sq_ls kd) n + 1) 0 ya_after (by omega) (by omega) (fun x c _ _ => ⟨Or.inl, fun z => z.elim id (fun y => absurd y.2.1 (Nat.not_lt_zero _))⟩))
theorem sq_yMay {P : Nat → Nat} {Fo : Nat → Option Nat} {j : Nat} {post : Int32 → Prop} (hW : sq_W n ow kd vr vl) (hSt : sq_St n kd ya_stores) (hLd : sq_Ld n kd ya_loads) (hPl : sq_Pl n kd P ya_place) (hFd : sq_Fd n kd Fo ya_found) (hj : j < n) (hj1 : kd j = 1) (h1 : sq_MF n ow kd vr P j (Fo j) → post 1) (h0 : ¬ sq_MF n ow kd vr P j (Fo j) → post 0) : wpY_mayFind post ((nI n), yf_fences, (nI (sq_cn (sq_ls kd) n)), yf_loadCount, yf_listed, yf_strictListed, (sq_nA kd), (sq_nA ow), (sq_nA vr), (sq_nA vl), ya_stores, ya_loads, ya_found, ya_place, ya_after, ya_list, ya_strictList) (nI (sq_cn (sq_ll kd) j)) := by
  obtain ⟨hn, hw, hk3, hv3, _, _⟩ := hW
  have hsc := sq_cn_le (sq_ls kd) n
  have hlj := sq_cn_le (sq_ll kd) j
  have hwj := hw j
  have hvj := hv3 j
  have eow : ∀ i, i < n → sq_nA ow (nI i).toNatClampNeg = nI (ow i) := fun i hi => sq_at ow (by omega)
  have evr : ∀ i, i < n → sq_nA vr (nI i).toNatClampNeg = nI (vr i) := fun i hi => sq_at vr (by omega)
  have hs6 : ∀ i, i < n → sq_cn (sq_ls kd) i < 6 := fun i hi => by have := sq_cn_le (sq_ls kd) i; omega
  have est : ∀ i, i < n → kd i = 0 → ya_stores (nI (sq_cn (sq_ls kd) i)).toNatClampNeg = nI i := fun i hi h => by have := hs6 i hi; rw [nI_clamp (by omega)]; exact hSt i hi h
  have epl : ∀ i, i < n → kd i = 0 → ya_place (nI (sq_cn (sq_ls kd) i)).toNatClampNeg = nI (P i) := fun i hi h => by have := hs6 i hi; rw [nI_clamp (by omega)]; exact (hPl i hi h).1
  have key : ∀ N s (x : Int32), sq_cn (sq_ls kd) n - s < N → s ≤ sq_cn (sq_ls kd) n → ((x = -1 ∧ ∀ i, sq_own ow kd vr j i → ¬ sq_cn (sq_ls kd) i < s) ∨ ∃ i, x = nI (sq_cn (sq_ls kd) i) ∧ sq_own ow kd vr j i ∧ sq_cn (sq_ls kd) i < s ∧ ∀ l, sq_own ow kd vr j l → sq_cn (sq_ls kd) l < s → l ≤ i) → wY_mayFind_12 post (nI (sq_cn (sq_ll kd) j)) (nI j) (nI n) yf_fences (nI (sq_cn (sq_ls kd) n)) yf_loadCount yf_listed yf_strictListed (sq_nA kd) (sq_nA ow) (sq_nA vr) (sq_nA vl) ya_stores ya_loads ya_found ya_place ya_after ya_list ya_strictList N x (nI s) := by
    intro N
    induction N with
    | zero => intro s x g; omega
    | succ N ih =>
      intro s x g1 g2 hx
      refine pk_le (sq_cn (sq_ls kd) n) s (fun g3 => ⟨pk_in (sq_cn (sq_ll kd) j) 6 (by omega), ?_⟩) (fun g3 => ?_)
      · have hown : (x = -1 ∧ ∀ i, ¬ sq_own ow kd vr j i) ∨ ∃ i, x = nI (sq_cn (sq_ls kd) i) ∧ sq_own ow kd vr j i ∧ ∀ l, sq_own ow kd vr j l → l ≤ i := by
          rcases hx with ⟨e, hx⟩ | ⟨i, e, ho, _, hx⟩
          · left
            refine ⟨e, fun i hi => hx i hi ?_⟩
            have := sq_stL (n := n) (by have := hi.1; omega) hi.2.1
            omega
          · right
            refine ⟨i, e, ho, fun l hl => hx l hl ?_⟩
            have := sq_stL (n := n) (by have := hl.1; omega) hl.2.1
            omega
        rcases hFd j hj hj1 with ⟨ef, efo⟩ | ⟨s0, hs0, hs00, ef, efo⟩
        · refine nm_r ((sq_ati ya_found (by omega)).trans efo) (br_f (by decide) ?_)
          rw [ef] at h1 h0
          rcases hown with ⟨e, hno⟩ | ⟨i, e, ho, _⟩
          · subst e
            exact br_f (by decide) (h1 hno)
          · subst e
            exact br_t (nI_pos' (by have := hs6 i (by have := ho.1; omega); omega)) (h0 (fun z => z i ho))
        · have h6 := hs6 s0 hs0
          refine nm_r ((sq_ati ya_found (by omega)).trans efo) (br_t (nI_pos' (by omega)) ?_)
          rw [ef] at h1 h0
          have ea := est s0 hs0 hs00
          have hws := hw s0
          have hvs := hv3 s0
          have hp6 := (hPl s0 hs0 hs00).2
          have s159 : ∀ z : Int32, ((z = 0 ∧ ¬ (ow s0 = ow j ∧ j < s0)) ∨ (z = 1 ∧ (ow s0 = ow j ∧ j < s0))) → wY_mayFind_159 post (nI j) x (nI (sq_cn (sq_ls kd) s0)) z (nI n) yf_fences (nI (sq_cn (sq_ls kd) n)) yf_loadCount yf_listed yf_strictListed (sq_nA kd) (sq_nA ow) (sq_nA vr) (sq_nA vl) ya_stores ya_loads ya_found ya_place ya_after ya_list ya_strictList := by
            intro z hz
            refine ⟨pk_in (sq_cn (sq_ls kd) s0) 6 h6, pk_in s0 6 (by omega) ea, pk_in j 6 (by omega), pk_eq (vr s0) (vr j) (fun g4 => ?_) (fun g4 => h0 (fun y => g4 y.2.2.1)) (by rw [ea]; exact evr s0 hs0) (evr j hj) (by omega) (by omega)⟩
            rcases hz with ⟨e, hz⟩ | ⟨e, hz⟩
            · subst e
              refine br_t rfl ?_
              rcases hown with ⟨e, hno⟩ | ⟨i, e, ho, hl⟩
              · subst e
                exact br_t (by decide) (h1 ⟨hs0, hs00, g4, hz, fun i hi => absurd hi (hno i)⟩)
              · subst e
                have hin : i < n := by have := ho.1; omega
                have hi6 := hs6 i hin
                have hpi := (hPl i hin ho.2.1).2
                refine br_f (nI_pos (by omega)) ⟨pk_in (sq_cn (sq_ls kd) s0) 6 h6, pk_in (sq_cn (sq_ls kd) i) 6 hi6, pk_lt (P s0) (P i) (fun g5 => h0 (fun y => ?_)) (fun g5 => h1 ⟨hs0, hs00, g4, hz, fun l hlo hll => ?_⟩) (epl s0 hs0 hs00) (epl i hin ho.2.1) (by omega) (by omega)⟩
                · have := y.2.2.2.2 i ho hl
                  omega
                · have e1 := hl l hlo
                  have e2 := hll i ho
                  have : l = i := by omega
                  rw [this]; exact g5
            · subst e
              exact br_f (by decide) (h0 (fun y => y.2.2.2.1 hz))
          refine ⟨pk_in (sq_cn (sq_ls kd) s0) 6 h6, pk_in s0 6 (by omega) ea, pk_in j 6 (by omega), pk_eq (ow s0) (ow j) (fun g4 => ⟨pk_in (sq_cn (sq_ls kd) s0) 6 h6, pk_le s0 j (fun g5 => s159 0 (Or.inl ⟨rfl, fun y => by omega⟩)) (fun g5 => s159 1 (Or.inr ⟨rfl, g4, g5⟩)) ea rfl (by omega) (by omega)⟩) (fun g4 => s159 0 (Or.inl ⟨rfl, fun y => g4 y.1⟩)) (by rw [ea]; exact eow s0 hs0) (eow j hj) (by omega) (by omega)⟩
      · obtain ⟨i, hi, hi0, ei⟩ := sq_stA g3
        subst ei
        have ea := est i hi hi0
        have h6 := hs6 i hi
        have hwi := hw i
        have hvi := hv3 i
        have sno : ¬ sq_own ow kd vr j i → wY_mayFind_12 post (nI (sq_cn (sq_ll kd) j)) (nI j) (nI n) yf_fences (nI (sq_cn (sq_ls kd) n)) yf_loadCount yf_listed yf_strictListed (sq_nA kd) (sq_nA ow) (sq_nA vr) (sq_nA vl) ya_stores ya_loads ya_found ya_place ya_after ya_list ya_strictList N x (nI (sq_cn (sq_ls kd) i + 1)) := by
          intro hno
          refine ih _ x (by omega) (by omega) ?_
          rcases hx with ⟨e, hx⟩ | ⟨l, e, ho, hl1, hl2⟩
          · left
            refine ⟨e, fun l hl hlt => ?_⟩
            by_cases e2 : l = i
            · exact hno (e2 ▸ hl)
            · have : sq_cn (sq_ls kd) l ≠ sq_cn (sq_ls kd) i := fun y => e2 (sq_stI hl.2.1 hi0 y)
              exact hx l hl (by omega)
          · right
            refine ⟨l, e, ho, by omega, fun m hm hlt => ?_⟩
            by_cases e2 : m = i
            · exact absurd (e2 ▸ hm) hno
            · have : sq_cn (sq_ls kd) m ≠ sq_cn (sq_ls kd) i := fun y => e2 (sq_stI hm.2.1 hi0 y)
              exact hl2 m hm (by omega)
        have syes : sq_own ow kd vr j i → wY_mayFind_12 post (nI (sq_cn (sq_ll kd) j)) (nI j) (nI n) yf_fences (nI (sq_cn (sq_ls kd) n)) yf_loadCount yf_listed yf_strictListed (sq_nA kd) (sq_nA ow) (sq_nA vr) (sq_nA vl) ya_stores ya_loads ya_found ya_place ya_after ya_list ya_strictList N (nI (sq_cn (sq_ls kd) i)) (nI (sq_cn (sq_ls kd) i + 1)) := by
          intro ho
          refine ih _ _ (by omega) (by omega) (Or.inr ⟨i, rfl, ho, by omega, fun l hl hlt => ?_⟩)
          rcases Nat.lt_or_ge i l with z | z
          · have := sq_cn_lo (p := sq_ls kd) (i := i) (j := l) (sq_lsT.mpr hi0) z
            omega
          · exact z
        refine ⟨pk_in (sq_cn (sq_ls kd) i) 6 h6, pk_in i 6 (by omega) ea, pk_in j 6 (by omega), pk_eq (ow i) (ow j) (fun g4 => ⟨pk_in (sq_cn (sq_ls kd) i) 6 h6, pk_le j i (fun g5 => br_t rfl (nm_r (nI_1 _) (sno (fun y => by have := y.1; omega)))) (fun g5 => ⟨pk_in (sq_cn (sq_ls kd) i) 6 h6, pk_in i 6 (by omega) ea, pk_in j 6 (by omega), pk_eq (vr i) (vr j) (fun g6 => br_f (by decide) (nm_r (nI_1 _) (syes ⟨g5, hi0, g6, g4⟩))) (fun g6 => br_t rfl (nm_r (nI_1 _) (sno (fun y => g6 y.2.2.1)))) (by rw [ea]; exact evr i hi) (evr j hj) (by omega) (by omega)⟩) rfl ea (by omega) (by omega)⟩) (fun g4 => br_t rfl (nm_r (nI_1 _) (sno (fun y => g4 y.2.2.2)))) (by rw [ea]; exact eow i hi) (eow j hj) (by omega) (by omega)⟩
  refine ⟨pk_in (sq_cn (sq_ll kd) j) 6 (by omega), nm_r ((sq_ati ya_loads (by omega)).trans (hLd j hj hj1)) (Exists.intro (sq_cn (sq_ls kd) n + 1) (key (sq_cn (sq_ls kd) n + 1) 0 (-1) (by omega) (by omega) (Or.inl ⟨rfl, fun i _ => Nat.not_lt_zero _⟩)))⟩
theorem sq_yRlt {S : Bool} {x1 : Int32} {P : Nat → Nat} {Fo : Nat → Option Nat} {j : Nat} {post : SY → Prop} (hW : sq_W n ow kd vr vl) (hS : x1 = 0 ↔ S = false) (hSt : sq_St n kd ya_stores) (hLd : sq_Ld n kd ya_loads) (hPl : sq_Pl n kd P ya_place) (hFd : sq_Fd n kd Fo ya_found) (hj : j < n) (hj1 : kd j = 1)
    (h : ∀ A' : Nat → Int32, (∀ x c, x < n → c < 32 → (bt (A' x) c = true ↔ bt (ya_after x) c = true ∨ (c = j ∧ Fo j = some x ∧ (S = true ∨ ow x ≠ ow j)) ∨ (x = j ∧ c < n ∧ kd c = 0 ∧ vr c = vr j ∧ ∀ s, Fo j = some s → P s < P c))) → post ((nI n), yf_fences, (nI (sq_cn (sq_ls kd) n)), yf_loadCount, yf_listed, yf_strictListed, (sq_nA kd), (sq_nA ow), (sq_nA vr), (sq_nA vl), ya_stores, ya_loads, ya_found, ya_place, A', ya_list, ya_strictList)) : wpY_relateLoad post ((nI n), yf_fences, (nI (sq_cn (sq_ls kd) n)), yf_loadCount, yf_listed, yf_strictListed, (sq_nA kd), (sq_nA ow), (sq_nA vr), (sq_nA vl), ya_stores, ya_loads, ya_found, ya_place, ya_after, ya_list, ya_strictList) (nI (sq_cn (sq_ll kd) j)) x1 := by
  obtain ⟨hn, hw, hk3, hv3, _, _⟩ := hW
  have hsc := sq_cn_le (sq_ls kd) n
  have hlj := sq_cn_le (sq_ll kd) j
  have hwj := hw j
  have hvj := hv3 j
  have eow : ∀ i, i < n → sq_nA ow (nI i).toNatClampNeg = nI (ow i) := fun i hi => sq_at ow (by omega)
  have evr : ∀ i, i < n → sq_nA vr (nI i).toNatClampNeg = nI (vr i) := fun i hi => sq_at vr (by omega)
  have hs6 : ∀ i, i < n → sq_cn (sq_ls kd) i < 6 := fun i hi => by have := sq_cn_le (sq_ls kd) i; omega
  have est : ∀ i, i < n → kd i = 0 → ya_stores (nI (sq_cn (sq_ls kd) i)).toNatClampNeg = nI i := fun i hi h => by have := hs6 i hi; rw [nI_clamp (by omega)]; exact hSt i hi h
  have epl : ∀ i, i < n → kd i = 0 → ya_place (nI (sq_cn (sq_ls kd) i)).toNatClampNeg = nI (P i) := fun i hi h => by have := hs6 i hi; rw [nI_clamp (by omega)]; exact (hPl i hi h).1
  have key : ∀ (y : Int32), ((Fo j = none ∧ y = -1) ∨ ∃ s, s < n ∧ kd s = 0 ∧ Fo j = some s ∧ y = nI (sq_cn (sq_ls kd) s)) → ∀ (B : Nat → Int32), (∀ x c, x < n → c < 32 → (bt (B x) c = true ↔ bt (ya_after x) c = true ∨ (c = j ∧ Fo j = some x ∧ (S = true ∨ ow x ≠ ow j)))) → ∀ N t (A : Nat → Int32), sq_cn (sq_ls kd) n - t < N → t ≤ sq_cn (sq_ls kd) n → (∀ x c, x < n → c < 32 → (bt (A x) c = true ↔ bt (B x) c = true ∨ (x = j ∧ sq_cn (sq_ls kd) c < t ∧ c < n ∧ kd c = 0 ∧ vr c = vr j ∧ ∀ s, Fo j = some s → P s < P c))) → wY_relateLoad_76 post (nI j) y (nI n) yf_fences (nI (sq_cn (sq_ls kd) n)) yf_loadCount yf_listed yf_strictListed N (nI t) (sq_nA kd) (sq_nA ow) (sq_nA vr) (sq_nA vl) ya_stores ya_loads ya_found ya_place A ya_list ya_strictList := by
    intro y hy B hB N
    induction N with
    | zero => intro t A g; omega
    | succ N ih =>
      intro t A g1 g2 hA
      refine pk_le (sq_cn (sq_ls kd) n) t (fun g3 => h A (fun x c hx hc => ?_)) (fun g3 => ?_)
      · rw [hA x c hx hc, hB x c hx hc]
        constructor
        · rintro ((z | z) | z)
          · exact Or.inl z
          · exact Or.inr (Or.inl z)
          · exact Or.inr (Or.inr ⟨z.1, z.2.2⟩)
        · rintro (z | z | z)
          · exact Or.inl (Or.inl z)
          · exact Or.inl (Or.inr z)
          · exact Or.inr ⟨z.1, by have := sq_stL z.2.1 z.2.2.1; omega, z.2⟩
      · obtain ⟨i, hi, hi0, ei⟩ := sq_stA g3
        subst ei
        have ea := est i hi hi0
        have h6 := hs6 i hi
        have hvi := hv3 i
        have hpi := (hPl i hi hi0).2
        have hstep : ∀ (A' : Nat → Int32), (∀ x c, x < n → c < 32 → (bt (A' x) c = true ↔ bt (A x) c = true ∨ (x = j ∧ c = i ∧ vr i = vr j ∧ ∀ s, Fo j = some s → P s < P i))) → wY_relateLoad_76 post (nI j) y (nI n) yf_fences (nI (sq_cn (sq_ls kd) n)) yf_loadCount yf_listed yf_strictListed N (nI (sq_cn (sq_ls kd) i + 1)) (sq_nA kd) (sq_nA ow) (sq_nA vr) (sq_nA vl) ya_stores ya_loads ya_found ya_place A' ya_list ya_strictList := by
          intro A' hA'
          refine ih _ A' (by omega) (by omega) (fun x c hx hc => ?_)
          rw [hA' x c hx hc, hA x c hx hc]
          constructor
          · rintro ((z | z) | ⟨z1, z2, z3⟩)
            · exact Or.inl z
            · exact Or.inr ⟨z.1, by omega, z.2.2⟩
            · rw [z2]; exact Or.inr ⟨z1, by omega, hi, hi0, z3⟩
          · rintro (z | ⟨z1, z2, z3, z4, z5⟩)
            · exact Or.inl (Or.inl z)
            · by_cases e : c = i
              · right; rw [e] at z5; exact ⟨z1, e, z5⟩
              · left; right
                refine ⟨z1, ?_, z3, z4, z5⟩
                have : sq_cn (sq_ls kd) c ≠ sq_cn (sq_ls kd) i := fun w => e (sq_stI z4 hi0 w)
                omega
        have s112 : ∀ z : Int32, ((z = 0 ∧ ¬ ∀ s, Fo j = some s → P s < P i) ∨ (z = 1 ∧ ∀ s, Fo j = some s → P s < P i)) → wY_relateLoad_112 post (wY_relateLoad_76 post (nI j) y (nI n) yf_fences (nI (sq_cn (sq_ls kd) n)) yf_loadCount yf_listed yf_strictListed N) (nI j) y (nI (sq_cn (sq_ls kd) i)) z (nI n) yf_fences (nI (sq_cn (sq_ls kd) n)) yf_loadCount yf_listed yf_strictListed (sq_nA kd) (sq_nA ow) (sq_nA vr) (sq_nA vl) ya_stores ya_loads ya_found ya_place A ya_list ya_strictList := by
          intro z hz
          have hsame : ¬ (vr i = vr j ∧ ∀ s, Fo j = some s → P s < P i) → wY_relateLoad_76 post (nI j) y (nI n) yf_fences (nI (sq_cn (sq_ls kd) n)) yf_loadCount yf_listed yf_strictListed N (nI (sq_cn (sq_ls kd) i + 1)) (sq_nA kd) (sq_nA ow) (sq_nA vr) (sq_nA vl) ya_stores ya_loads ya_found ya_place (upd A (nI j).toNatClampNeg (A (nI j).toNatClampNeg)) ya_list ya_strictList := by
            intro hno
            rw [sq_updS]
            exact hstep A (fun x c _ _ => ⟨Or.inl, fun z => z.elim id (fun w => absurd w.2.2 hno)⟩)
          refine ⟨pk_in (sq_cn (sq_ls kd) i) 6 h6, pk_in i 6 (by omega) ea, pk_in j 6 (by omega), pk_eq (vr i) (vr j) (fun g4 => ?_) (fun g4 => ?_) (by rw [ea]; exact evr i hi) (evr j hj) (by omega) (by omega)⟩
          · rcases hz with ⟨e, hz⟩ | ⟨e, hz⟩
            · subst e
              exact br_f (by decide) (br_t rfl ⟨pk_in j 6 (by omega), pk_in j 6 (by omega), nm_e (nm_r (nI_1 _) (hsame (fun w => hz w.2)))⟩)
            · subst e
              refine br_f (by decide) (br_f (by decide) ⟨pk_in j 6 (by omega), pk_in (sq_cn (sq_ls kd) i) 6 h6, pk_in j 6 (by omega), nm_e (nm_r (nI_1 _) (hstep _ (fun x c hx hc => ?_)))⟩)
              rw [ea, nI_clamp (by omega), sq_or1 (by omega) hc]
              exact ⟨fun z => z.imp id (fun w => ⟨w.1, w.2, g4, hz⟩), fun z => z.imp id (fun w => ⟨w.1, w.2.1⟩)⟩
          · exact br_t rfl ⟨pk_in j 6 (by omega), pk_in j 6 (by omega), nm_e (nm_r (nI_1 _) (hsame (fun w => g4 w.1)))⟩
        rcases hy with ⟨e, hy⟩ | ⟨s, hs, hs0, e, hy⟩
        · subst hy
          exact br_t (by decide) (s112 1 (Or.inr ⟨rfl, fun s z => by rw [e] at z; exact absurd z (by simp)⟩))
        · subst hy
          have hs6' := hs6 s hs
          have hps := (hPl s hs hs0).2
          refine br_f (nI_pos (by omega)) ⟨pk_in (sq_cn (sq_ls kd) i) 6 h6, pk_in (sq_cn (sq_ls kd) s) 6 hs6', pk_le (P i) (P s) (fun g4 => s112 0 (Or.inl ⟨rfl, fun z => by have := z s e; omega⟩)) (fun g4 => s112 1 (Or.inr ⟨rfl, fun s' z => ?_⟩)) (epl i hi hi0) (epl s hs hs0) (by omega) (by omega)⟩
          rw [e] at z
          injection z with z
          rw [← z]; exact g4
  have go : ∀ (y : Int32), ((Fo j = none ∧ y = -1) ∨ ∃ s, s < n ∧ kd s = 0 ∧ Fo j = some s ∧ y = nI (sq_cn (sq_ls kd) s)) → ∀ (B : Nat → Int32), (∀ x c, x < n → c < 32 → (bt (B x) c = true ↔ bt (ya_after x) c = true ∨ (c = j ∧ Fo j = some x ∧ (S = true ∨ ow x ≠ ow j)))) → ∃ N, wY_relateLoad_76 post (nI j) y (nI n) yf_fences (nI (sq_cn (sq_ls kd) n)) yf_loadCount yf_listed yf_strictListed N 0 (sq_nA kd) (sq_nA ow) (sq_nA vr) (sq_nA vl) ya_stores ya_loads ya_found ya_place B ya_list ya_strictList := by
    intro y hy B hB
    exact ⟨sq_cn (sq_ls kd) n + 1, key y hy B hB (sq_cn (sq_ls kd) n + 1) 0 B (by omega) (by omega) (fun x c _ _ => ⟨Or.inl, fun z => z.elim id (fun w => absurd w.2.1 (Nat.not_lt_zero _))⟩)⟩
  refine ⟨pk_in (sq_cn (sq_ll kd) j) 6 (by omega), nm_r ((sq_ati ya_loads (by omega)).trans (hLd j hj hj1)) ⟨pk_in (sq_cn (sq_ll kd) j) 6 (by omega), ?_⟩⟩
  rcases hFd j hj hj1 with ⟨ef, efo⟩ | ⟨s, hs, hs0, ef, efo⟩
  · refine nm_r ((sq_ati ya_found (by omega)).trans efo) (br_t (by decide) (go _ (Or.inl ⟨ef, rfl⟩) _ (fun x c _ _ => ⟨Or.inl, fun z => z.elim id (fun w => ?_)⟩)))
    rw [ef] at w; exact absurd w.2.1 (by simp)
  · have h6 := hs6 s hs
    have ea := est s hs hs0
    have hws := hw s
    have s45 : (S = true ∨ ow s ≠ ow j) → wY_relateLoad_45 post (nI j) (nI (sq_cn (sq_ls kd) s)) (nI n) yf_fences (nI (sq_cn (sq_ls kd) n)) yf_loadCount yf_listed yf_strictListed (sq_nA kd) (sq_nA ow) (sq_nA vr) (sq_nA vl) ya_stores ya_loads ya_found ya_place ya_after ya_list ya_strictList := by
      intro hc
      refine ⟨pk_in (sq_cn (sq_ls kd) s) 6 h6, pk_in (sq_cn (sq_ls kd) s) 6 h6, pk_in s 6 (by omega) ea, pk_in s 6 (by omega) ea, nm_e (go _ (Or.inr ⟨s, hs, hs0, ef, rfl⟩) _ (fun x c hx hc' => ?_))⟩
      rw [ea, nI_clamp (by omega), sq_or1 (by omega) hc']
      constructor
      · rintro (z | ⟨z1, z2⟩)
        · exact Or.inl z
        · rw [z1]; exact Or.inr ⟨z2, ef, hc⟩
      · rintro (z | ⟨z1, z2, z3⟩)
        · exact Or.inl z
        · rw [ef] at z2
          injection z2 with z2
          exact Or.inr ⟨z2.symm, z1⟩
    refine nm_r ((sq_ati ya_found (by omega)).trans efo) (br_f (nI_pos (by omega)) (ek_if hS (fun hs' => ⟨pk_in (sq_cn (sq_ls kd) s) 6 h6, pk_in s 6 (by omega) ea, pk_in j 6 (by omega), pk_eq (ow s) (ow j) (fun g => go _ (Or.inr ⟨s, hs, hs0, ef, rfl⟩) _ (fun x c _ _ => ⟨Or.inl, fun z => z.elim id (fun w => ?_)⟩)) (fun g => s45 (Or.inr g)) (by rw [ea]; exact eow s hs) (eow j hj) (by omega) (by omega)⟩) (fun hs' => s45 (Or.inl ?_))))
    · obtain ⟨_, w2, w3⟩ := w
      rw [ef] at w2
      injection w2 with w2
      rcases w3 with w3 | w3
      · rw [hs'] at w3; exact absurd w3 (by decide)
      · rw [← w2] at w3; exact absurd g w3
    · cases S
      · exact absurd rfl hs'
      · rfl
end
