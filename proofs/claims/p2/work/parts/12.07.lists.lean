/-! ===== reference, pure: overOf, isFreeFace, critical, facet, free, collapse ===== -/
theorem hq_cnt0 {f : Nat → Int32} : ∀ n : Nat, (∀ k, k < n → f k = 0) → hm_cnt f n = 0 := by
  intro n
  induction n with
  | zero => intro _; rfl
  | succ n ih =>
    intro h
    show hm_cnt f n + f n = 0
    rw [ih (fun k hk => h k (by omega)), h n (by omega)]; rfl
theorem hq_some {t : XT} {m f : Nat} (h : hm_cnt (fun k => hm_ind (hm_faceT t f k)) m = 1) : ∃ s, s < m ∧ hm_faceT t f s := by
  refine Classical.byContradiction (fun no => ?_)
  have z := hq_cnt0 (f := fun k => hm_ind (hm_faceT t f k)) m (fun k hk => hm_ind0 (fun q => no ⟨k, hk, q⟩))
  rw [z] at h
  exact absurd h (by decide)
theorem hq_over_go {t : XT} {m f s : Nat} {lj : Nat → Int64} {Q : Int32 → XT → Prop} (hm60 : m ≤ 60) (hf : f < m) (hs : s < m) (hF : hm_faceT t f s) (h : ∀ s, s < m → hm_faceT t f s → Q (nI s) t) :
    ∀ (d c K : Nat) (li : Nat → Int32), c + d = s → d + 10 ≤ K → li 1 = nI f → li 2 = nI c → wpX12_overOf K 1 t li lj Q := by
  intro d
  induction d with
  | zero =>
    intro c K li hd hK e1 e2
    obtain ⟨K, rfl⟩ : ∃ K', K = K' + 1 := ⟨K - 1, by omega⟩
    obtain rfl : c = s := by omega
    show wbX12_overOf_1 (wpX12_overOf K) K t li lj Q
    unfold wbX12_overOf_1
    rw [e1, e2]
    exact hm_isFaceThere (by omega) (by omega) (by omega) (fun _ => ⟨fun _ => h c hs hF, fun x => absurd x (by decide)⟩) (fun no => absurd hF no)
  | succ d ih =>
    intro c K li hd hK e1 e2
    obtain ⟨K, rfl⟩ : ∃ K', K = K' + 1 := ⟨K - 1, by omega⟩
    show wbX12_overOf_1 (wpX12_overOf K) K t li lj Q
    unfold wbX12_overOf_1
    rw [e1, e2]
    refine hm_isFaceThere (by omega) (by omega) (by omega) (fun fc => ⟨fun _ => h c (by omega) fc, fun x => absurd x (by decide)⟩) (fun no => ⟨fun x => absurd rfl x, fun _ v e => ?_⟩)
    exact ih (c + 1) K (uI li 2 v) (by omega) (by omega) e1 (e.trans (hs_inc c))
theorem hq_overOf {t : XT} {m f K : Nat} {Q : Int32 → XT → Prop} (hm60 : m ≤ 60) (hf : f < m) (hF : ∃ s, s < m ∧ hm_faceT t f s) (hK : 80 ≤ K) (h : ∀ s, s < m → hm_faceT t f s → Q (nI s) t) : wqX12_overOf K t (nI f) Q := by
  obtain ⟨K, rfl⟩ : ∃ K', K = K' + 1 := ⟨K - 1, by omega⟩
  obtain ⟨s, hs, fc⟩ := hF
  exact hq_over_go (lj := fun _ => 0) hm60 hf hs fc h s 0 K (uI (uI (fun _ => 0) 1 (nI f)) 2 0) (by omega) (by omega) rfl rfl
theorem hq_isFreeFace {t : XT} {m K : Nat} {a : Int32} {Q : Int32 → XT → Prop} (hm : t.1 3 = nI m) (hm60 : m ≤ 60) (hK : 90 ≤ K) (h1 : ∀ f, f < m → a = nI f → (∃ s, s < m ∧ hm_faceT t f s) → Q 1 t) (h0 : Q 0 t) : wqX12_isFreeFace K t a Q := by
  obtain ⟨K, rfl⟩ : ∃ K', K = K' + 1 := ⟨K - 1, by omega⟩
  have out : wpX12_isFreeFace K 1 t (uI (fun _ => 0) 1 a) (fun _ => 0) Q := by
    obtain ⟨K, rfl⟩ : ∃ K', K = K' + 1 := ⟨K - 1, by omega⟩
    exact h0
  show wbX12_isFreeFace_0 (wpX12_isFreeFace K) K t (uI (fun _ => 0) 1 a) (fun _ => 0) Q
  refine hm_isThere hm hm60 (by omega) (fun f hf ea _ => ?_) (fun _ => ⟨fun _ => out, fun c => absurd rfl c⟩)
  refine ⟨fun c => absurd c (by decide), fun _ => ?_⟩
  have ea : a = nI f := ea
  subst ea
  refine hm_facesOver hm hm60 (by omega) (by omega) ?_
  refine ⟨fun c => ?_, fun _ => out⟩
  have ex := hq_some c
  refine hq_overOf hm60 hf ex (by omega) (fun s hs _ => ?_)
  refine hm_facesOver hm hm60 (by omega) (by omega) ?_
  exact ⟨fun _ => h0, fun _ => h1 f hf rfl ex⟩
theorem hq_critical_go {t : XT} {m : Nat} {lj : Nat → Int64} {Q : Int32 → XT → Prop} (hm : t.1 3 = nI m) (hm60 : m ≤ 60) (hQ : ∀ r, Q r t) :
    ∀ (d c K : Nat) (li : Nat → Int32), c + d = m → 2 * d + 20 ≤ K → li 4 = nI c → wpX12_critical K 2 t li lj Q := by
  intro d
  induction d with
  | zero =>
    intro c K li hd hK e4
    obtain ⟨K, rfl⟩ : ∃ K', K = K' + 1 := ⟨K - 1, by omega⟩
    show wbX12_critical_2 (wpX12_critical K) K t li lj Q
    exact ⟨fun _ => ⟨fun _ => hQ _, fun _ => hQ _⟩, fun x => absurd (by rw [hm, e4]; exact nI_le (by omega) (by omega)) x⟩
  | succ d ih =>
    intro c K li hd hK e4
    obtain ⟨K, rfl⟩ : ∃ K', K = K' + 2 := ⟨K - 2, by omega⟩
    have nx : ∀ li' : Nat → Int32, li' 4 = nI c → wpX12_critical (K + 1) 3 t li' lj Q := by
      intro li' e
      show wbX12_critical_3 (wpX12_critical K) K t li' lj Q
      intro v ev
      exact ih (c + 1) K (uI li' 4 v) (by omega) (by omega) (by show v = _; rw [ev, e]; exact hs_inc c)
    show wbX12_critical_2 (wpX12_critical (K + 1)) (K + 1) t li lj Q
    unfold wbX12_critical_2
    rw [e4]
    refine ⟨fun _ => ⟨fun _ => hQ _, fun _ => hQ _⟩, fun _ => ?_⟩
    refine hm_isCritical hm hm60 (by omega) (fun j hj ej _ => ?_) (fun _ => ⟨fun _ => nx li e4, fun x => absurd rfl x⟩)
    refine ⟨fun x => absurd x (by decide), fun _ => ?_⟩
    refine hm_dimOf (by omega) (by omega) ?_
    exact ⟨fun _ => nx li e4, fun _ => ⟨fun _ v _ => nx (uI li 3 v) e4, fun _ => hQ _⟩⟩
theorem hq_critical {t : XT} {m K : Nat} {a b : Int32} {Q : Int32 → XT → Prop} (hm : t.1 3 = nI m) (hm60 : m ≤ 60) (hK : 200 ≤ K) (hQ : ∀ r, Q r t) : wqX12_critical K t a b Q := by
  obtain ⟨K, rfl⟩ : ∃ K', K = K' + 2 := ⟨K - 2, by omega⟩
  show wbX12_critical_0 (wpX12_critical (K + 1)) (K + 1) t (uI (uI (fun _ => 0) 1 a) 2 b) (fun _ => 0) Q
  refine hm_in (by omega) ?_
  refine ⟨fun _ => hQ (-1), fun _ => ⟨fun _ => ?_, fun _ => hQ (-1)⟩⟩
  exact hq_critical_go hm hm60 hQ m 0 (K + 1) _ (by omega) (by omega) rfl
theorem hq_facet_go {t : XT} {m : Nat} {lj : Nat → Int64} {Q : Int32 → XT → Prop} (hm : t.1 3 = nI m) (hm60 : m ≤ 60) (hQ : ∀ r, Q r t) :
    ∀ (d c K : Nat) (li : Nat → Int32), c + d = m → 2 * d + 90 ≤ K → li 3 = nI c → wpX12_facet K 1 t li lj Q := by
  intro d
  induction d with
  | zero =>
    intro c K li hd hK e4
    obtain ⟨K, rfl⟩ : ∃ K', K = K' + 1 := ⟨K - 1, by omega⟩
    show wbX12_facet_1 (wpX12_facet K) K t li lj Q
    exact ⟨fun _ => ⟨fun _ => hQ _, fun _ => hQ _⟩, fun x => absurd (by rw [hm, e4]; exact nI_le (by omega) (by omega)) x⟩
  | succ d ih =>
    intro c K li hd hK e4
    obtain ⟨K, rfl⟩ : ∃ K', K = K' + 2 := ⟨K - 2, by omega⟩
    have nx : ∀ li' : Nat → Int32, li' 3 = nI c → wpX12_facet (K + 1) 2 t li' lj Q := by
      intro li' e
      show wbX12_facet_2 (wpX12_facet K) K t li' lj Q
      intro v ev
      exact ih (c + 1) K (uI li' 3 v) (by omega) (by omega) (by show v = _; rw [ev, e]; exact hs_inc c)
    show wbX12_facet_1 (wpX12_facet (K + 1)) (K + 1) t li lj Q
    unfold wbX12_facet_1
    rw [e4]
    refine ⟨fun _ => ⟨fun _ => hQ _, fun _ => hQ _⟩, fun _ => ?_⟩
    refine hm_isThere hm hm60 (by omega) (fun j hj ej _ => ?_) (fun _ => ⟨fun _ => nx li e4, fun x => absurd rfl x⟩)
    refine ⟨fun x => absurd x (by decide), fun _ => ?_⟩
    refine hm_facesOver hm hm60 (by omega) (by omega) ?_
    exact ⟨fun _ => nx li e4, fun _ => ⟨fun _ v _ => nx (uI li 2 v) e4, fun _ => hQ _⟩⟩
theorem hq_facet {t : XT} {m K : Nat} {a : Int32} {Q : Int32 → XT → Prop} (hm : t.1 3 = nI m) (hm60 : m ≤ 60) (hK : 300 ≤ K) (hQ : ∀ r, Q r t) : wqX12_facet K t a Q := by
  obtain ⟨K, rfl⟩ : ∃ K', K = K' + 1 := ⟨K - 1, by omega⟩
  show wbX12_facet_0 (wpX12_facet K) K t (uI (fun _ => 0) 1 a) (fun _ => 0) Q
  exact ⟨fun _ => hq_facet_go hm hm60 hQ m 0 K _ (by omega) (by omega) rfl, fun _ => hQ (-1)⟩
theorem hq_free_go {t : XT} {m : Nat} {lj : Nat → Int64} {Q : Int32 → XT → Prop} (hm : t.1 3 = nI m) (hm60 : m ≤ 60) (hQ : ∀ r, Q r t) :
    ∀ (d c K : Nat) (li : Nat → Int32), c + d = m → 2 * d + 100 ≤ K → li 3 = nI c → wpX12_free K 1 t li lj Q := by
  intro d
  induction d with
  | zero =>
    intro c K li hd hK e4
    obtain ⟨K, rfl⟩ : ∃ K', K = K' + 1 := ⟨K - 1, by omega⟩
    show wbX12_free_1 (wpX12_free K) K t li lj Q
    exact ⟨fun _ => ⟨fun _ => hQ _, fun _ => hQ _⟩, fun x => absurd (by rw [hm, e4]; exact nI_le (by omega) (by omega)) x⟩
  | succ d ih =>
    intro c K li hd hK e4
    obtain ⟨K, rfl⟩ : ∃ K', K = K' + 2 := ⟨K - 2, by omega⟩
    have nx : ∀ li' : Nat → Int32, li' 3 = nI c → wpX12_free (K + 1) 2 t li' lj Q := by
      intro li' e
      show wbX12_free_2 (wpX12_free K) K t li' lj Q
      intro v ev
      exact ih (c + 1) K (uI li' 3 v) (by omega) (by omega) (by show v = _; rw [ev, e]; exact hs_inc c)
    show wbX12_free_1 (wpX12_free (K + 1)) (K + 1) t li lj Q
    unfold wbX12_free_1
    rw [e4]
    refine ⟨fun _ => ⟨fun _ => hQ _, fun _ => hQ _⟩, fun _ => ?_⟩
    refine hq_isFreeFace hm hm60 (by omega) (fun j hj ej _ => ?_) ⟨fun _ => nx li e4, fun x => absurd rfl x⟩
    exact ⟨fun x => absurd x (by decide), fun _ => ⟨fun _ v _ => nx (uI li 2 v) e4, fun _ => hQ _⟩⟩
theorem hq_freeCall {t : XT} {m K : Nat} {a : Int32} {Q : Int32 → XT → Prop} (hm : t.1 3 = nI m) (hm60 : m ≤ 60) (hK : 300 ≤ K) (hQ : ∀ r, Q r t) : wqX12_free K t a Q := by
  obtain ⟨K, rfl⟩ : ∃ K', K = K' + 1 := ⟨K - 1, by omega⟩
  show wbX12_free_0 (wpX12_free K) K t (uI (fun _ => 0) 1 a) (fun _ => 0) Q
  exact ⟨fun _ => hq_free_go hm hm60 hQ m 0 K _ (by omega) (by omega) rfl, fun _ => hQ (-1)⟩
theorem hq_collapse {t : XT} {m n K : Nat} {a : Int32} {Q : Int32 → XT → Prop} (hI : hq_inv t m n) (hK : 5000 ≤ K) (hQ : ∀ r t' n', hq_key t' = hq_key t → hq_inv t' m n' → Q r t') : wqX12_collapse K t a Q := by
  have hI' := hI
  obtain ⟨hm, hm60, ho, hM, hA, hn, h4, hp, hT⟩ := hI'
  obtain ⟨K, rfl⟩ : ∃ K', K = K' + 1 := ⟨K - 1, by omega⟩
  show wbX12_collapse_0 (wpX12_collapse K) K t (uI (fun _ => 0) 1 a) (fun _ => 0) Q
  refine hm_isThere hm hm60 (by omega) (fun f hf ea _ => ?_) (fun _ => ⟨fun c => absurd rfl c, fun _ => hQ _ t n rfl hI⟩)
  refine ⟨fun _ => ?_, fun c => absurd c (by decide)⟩
  have ea : a = nI f := ea
  subst ea
  refine hq_isFreeFace hm hm60 (by omega) (fun f' hf' e' ex => ?_) ⟨fun c => absurd rfl c, fun _ => hQ _ t n rfl hI⟩
  have e' : nI f = nI f' := e'
  obtain rfl := (nI_eq (by omega) (by omega)).mp e'
  refine ⟨fun _ => ?_, fun c => absurd c (by decide)⟩
  refine hq_remembers h4 hn (by omega) (fun P n' hP => ?_)
  have hI1 := hq_push_inv hI hP
  refine hq_overOf (t := sI (sA t 8 P) 4 (nI n')) hm60 hf ex (by omega) (fun s hs _ => ?_)
  refine hq_frees (t := sI (sA t 8 P) 4 (nI n')) hm60 hf hI1.2.2.2.1 (by omega) ?_
  have hI2 := hq_free_inv hI1 hf
  refine hq_frees hm60 hs hI2.2.2.2.1 (by omega) ?_
  have hI3 := hq_free_inv hI2 hs
  refine ⟨vp_in_nI (n := f) (by omega) (by decide), fun t9 e9 => ⟨vp_in_nI (n := s) (by omega) (by decide), fun t10 e10 => ?_⟩⟩
  subst e9
  subst e10
  refine hm_thereMany hm hm60 (by omega) ?_
  have ff : (nI f).toNatClampNeg = f := nI_clamp (by omega)
  have ss : (nI s).toNatClampNeg = s := nI_clamp (by omega)
  have hT3 := hI3.2.2.2.2.2.2.2.2
  have ps : hq_free (hq_free (t.2.2.1 4) f) s s = -1 := hq_free_self
  have pf : hq_free (hq_free (t.2.2.1 4) f) s f = -1 := by
    rcases hq_free_at (p := hq_free (t.2.2.1 4) f) (k := s) f with z | z
    · exact z
    · exact z.trans hq_free_self
  have hI4 := hq_gone_inv (G := upd (t.2.2.1 5) (nI f).toNatClampNeg (vp_nar .boolean 1)) hI3 (fun j hj q => by
    by_cases x : j = f
    · exact absurd (by rw [x]; exact pf) q
    · rw [ff]; exact (if_neg x).trans (hT3.1 j hj q))
  have hI5 := hq_gone_inv (G := upd (upd (t.2.2.1 5) (nI f).toNatClampNeg (vp_nar .boolean 1)) (nI s).toNatClampNeg (vp_nar .boolean 1)) hI4 (fun j hj q => by
    by_cases x : j = s
    · exact absurd (by rw [x]; exact ps) q
    · rw [ss]; exact (if_neg x).trans (hI4.2.2.2.2.2.2.2.2.1 j hj q))
  exact hQ _ _ n' rfl hI5
