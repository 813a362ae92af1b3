/-! ===== the reference, without the machine: counts, exactly ===== -/
noncomputable def hm_ind (p : Prop) : Int32 := @ite Int32 p (Classical.propDecidable p) 1 0
theorem hm_ind1 {p : Prop} (h : p) : hm_ind p = 1 := @if_pos p (Classical.propDecidable p) h Int32 1 0
theorem hm_ind0 {p : Prop} (h : ¬ p) : hm_ind p = 0 := @if_neg p (Classical.propDecidable p) h Int32 1 0
theorem hm_ind01 (p : Prop) : hm_ind p = 0 ∨ hm_ind p = 1 := (Classical.em p).elim (fun h => Or.inr (hm_ind1 h)) (fun h => Or.inl (hm_ind0 h))
def hm_cnt (f : Nat → Int32) : Nat → Int32
  | 0 => 0
  | n + 1 => hm_cnt f n + f n
theorem hm_cnt_le {f : Nat → Int32} : ∀ n : Nat, (∀ k, k < n → f k = 0 ∨ f k = 1) → ∃ c, c ≤ n ∧ hm_cnt f n = nI c := by
  intro n
  induction n with
  | zero => intro _; exact ⟨0, Nat.le_refl _, rfl⟩
  | succ n ih =>
    intro h
    obtain ⟨c, hc, e⟩ := ih (fun k hk => h k (by omega))
    rcases h n (by omega) with q | q
    · exact ⟨c, by omega, by show hm_cnt f n + f n = nI c; rw [e, q]; exact Int32.add_zero _⟩
    · exact ⟨c + 1, by omega, by show hm_cnt f n + f n = nI (c + 1); rw [e, q]; exact nI_1 c⟩
theorem hm_truth1 {K : Nat} {Q : Int32 → Prop} (hK : 1 ≤ K) (h : Q 1) : wqX12_truth K 1 Q := hm_truth hK h
theorem hm_truth0 {K : Nat} {Q : Int32 → Prop} (hK : 1 ≤ K) (h : Q 0) : wqX12_truth K 0 Q := hm_truth hK h
theorem hm_criticalMany_go {t : XT} {m : Nat} {lj : Nat → Int64} {Q : Int32 → XT → Prop} (hm : t.1 3 = nI m) (hm60 : m ≤ 60) (h : Q (hm_cnt (fun k => hm_ind (hm_crit t k)) m) t) :
    ∀ (n c K : Nat) (li : Nat → Int32), c + n = m → n + 10 ≤ K → li 1 = hm_cnt (fun k => hm_ind (hm_crit t k)) c → li 2 = nI c → wpX12_criticalMany K 1 t li lj Q := by
  intro n
  induction n with
  | zero =>
    intro c K li hn hK e1 e2
    obtain ⟨K, rfl⟩ : ∃ K', K = K' + 1 := ⟨K - 1, by omega⟩
    show wbX12_criticalMany_1 (wpX12_criticalMany K) K t li lj Q
    refine ⟨fun _ => ?_, fun c1 => absurd ?_ c1⟩
    · rw [e1, show c = m by omega]; exact h
    · rw [hm, e2]; exact nI_le (by omega) (by omega)
  | succ n ih =>
    intro c K li hn hK e1 e2
    obtain ⟨K, rfl⟩ : ∃ K', K = K' + 1 := ⟨K - 1, by omega⟩
    show wbX12_criticalMany_1 (wpX12_criticalMany K) K t li lj Q
    refine ⟨fun c1 => absurd (show t.1 3 ≤ li 2 from c1) ?_, fun _ => ?_⟩
    · rw [hm, e2]; exact nI_ge (by omega) (by omega)
    · rw [e2]
      have go : ∀ r : Int32, r = hm_ind (hm_crit t c) → ∀ v4 : Int32, v4 = li 1 + r → ∀ v5 : Int32, v5 = nI c + Int32.ofInt 1 → wpX12_criticalMany K 1 t (uI (uI li 1 v4) 2 v5) lj Q := by
        intro r er v4 f4 v5 f5
        refine ih (c + 1) K _ (by omega) (by omega) ?_ (f5.trans (hs_inc c))
        show v4 = hm_cnt (fun k => hm_ind (hm_crit t k)) c + hm_ind (hm_crit t c)
        rw [f4, e1, er]
      refine hm_isCritical (a := nI c) hm hm60 (by omega) (fun j hj e q => ?_) (fun q => ?_)
      · obtain rfl := (nI_eq (by omega) (by omega)).mp e
        exact hm_truth1 (by omega) (go 1 (hm_ind1 q).symm)
      · exact hm_truth0 (by omega) (go 0 (hm_ind0 (q c (by omega) rfl)).symm)
theorem hm_criticalMany {t : XT} {m K : Nat} {Q : Int32 → XT → Prop} (hm : t.1 3 = nI m) (hm60 : m ≤ 60) (hK : 80 ≤ K) (h : Q (hm_cnt (fun k => hm_ind (hm_crit t k)) m) t) : wqX12_criticalMany K t Q := by
  obtain ⟨K, rfl⟩ : ∃ K', K = K' + 1 := ⟨K - 1, by omega⟩
  show wbX12_criticalMany_0 (wpX12_criticalMany K) K t (fun _ => 0) (fun _ => 0) Q
  exact hm_criticalMany_go hm hm60 h m 0 K _ (by omega) (by omega) rfl rfl
theorem hm_facesOver_go {t : XT} {m f : Nat} {lj : Nat → Int64} {Q : Int32 → XT → Prop} (hm : t.1 3 = nI m) (hm60 : m ≤ 60) (hf : f < 60) (h : Q (hm_cnt (fun k => hm_ind (hm_faceT t f k)) m) t) :
    ∀ (n c K : Nat) (li : Nat → Int32), c + n = m → n + 10 ≤ K → li 1 = nI f → li 2 = hm_cnt (fun k => hm_ind (hm_faceT t f k)) c → li 3 = nI c → wpX12_facesOver K 1 t li lj Q := by
  intro n
  induction n with
  | zero =>
    intro c K li hn hK e0 e1 e2
    obtain ⟨K, rfl⟩ : ∃ K', K = K' + 1 := ⟨K - 1, by omega⟩
    show wbX12_facesOver_1 (wpX12_facesOver K) K t li lj Q
    refine ⟨fun _ => ?_, fun c1 => absurd ?_ c1⟩
    · rw [e1, show c = m by omega]; exact h
    · rw [hm, e2]; exact nI_le (by omega) (by omega)
  | succ n ih =>
    intro c K li hn hK e0 e1 e2
    obtain ⟨K, rfl⟩ : ∃ K', K = K' + 1 := ⟨K - 1, by omega⟩
    show wbX12_facesOver_1 (wpX12_facesOver K) K t li lj Q
    refine ⟨fun c1 => absurd (show t.1 3 ≤ li 3 from c1) ?_, fun _ => ?_⟩
    · rw [hm, e2]; exact nI_ge (by omega) (by omega)
    · rw [e0, e2]
      have go : ∀ r : Int32, r = hm_ind (hm_faceT t f c) → ∀ v4 : Int32, v4 = li 2 + r → ∀ v5 : Int32, v5 = nI c + Int32.ofInt 1 → wpX12_facesOver K 1 t (uI (uI li 2 v4) 3 v5) lj Q := by
        intro r er v4 f4 v5 f5
        refine ih (c + 1) K _ (by omega) (by omega) e0 ?_ (f5.trans (hs_inc c))
        show v4 = hm_cnt (fun k => hm_ind (hm_faceT t f k)) c + hm_ind (hm_faceT t f c)
        rw [f4, e1, er]
      refine hm_isFaceThere hf (by omega) (by omega) (fun q => ?_) (fun q => ?_)
      · exact hm_truth1 (by omega) (go 1 (hm_ind1 q).symm)
      · exact hm_truth0 (by omega) (go 0 (hm_ind0 q).symm)
theorem hm_facesOver {t : XT} {m f K : Nat} {Q : Int32 → XT → Prop} (hm : t.1 3 = nI m) (hm60 : m ≤ 60) (hf : f < 60) (hK : 80 ≤ K) (h : Q (hm_cnt (fun k => hm_ind (hm_faceT t f k)) m) t) : wqX12_facesOver K t (nI f) Q := by
  obtain ⟨K, rfl⟩ : ∃ K', K = K' + 1 := ⟨K - 1, by omega⟩
  show wbX12_facesOver_0 (wpX12_facesOver K) K t (uI (fun _ => 0) 1 (nI f)) (fun _ => 0) Q
  exact hm_facesOver_go hm hm60 hf h m 0 K _ (by omega) (by omega) rfl rfl rfl
theorem hm_pairMany_go {t : XT} {m : Nat} {lj : Nat → Int64} {Q : Int32 → XT → Prop} (hm : t.1 3 = nI m) (hm60 : m ≤ 60) (h : Q (hm_cnt (fun k => hm_ind (hm_low t k)) m) t) :
    ∀ (n c K : Nat) (li : Nat → Int32), c + n = m → n + 10 ≤ K → li 1 = hm_cnt (fun k => hm_ind (hm_low t k)) c → li 2 = nI c → wpX12_pairMany K 1 t li lj Q := by
  intro n
  induction n with
  | zero =>
    intro c K li hn hK e1 e2
    obtain ⟨K, rfl⟩ : ∃ K', K = K' + 1 := ⟨K - 1, by omega⟩
    show wbX12_pairMany_1 (wpX12_pairMany K) K t li lj Q
    refine ⟨fun _ => ?_, fun c1 => absurd ?_ c1⟩
    · rw [e1, show c = m by omega]; exact h
    · rw [hm, e2]; exact nI_le (by omega) (by omega)
  | succ n ih =>
    intro c K li hn hK e1 e2
    obtain ⟨K, rfl⟩ : ∃ K', K = K' + 1 := ⟨K - 1, by omega⟩
    show wbX12_pairMany_1 (wpX12_pairMany K) K t li lj Q
    refine ⟨fun c1 => absurd (show t.1 3 ≤ li 2 from c1) ?_, fun _ => ?_⟩
    · rw [hm, e2]; exact nI_ge (by omega) (by omega)
    · rw [e2]
      have go : ∀ r : Int32, r = hm_ind (hm_low t c) → ∀ v4 : Int32, v4 = li 1 + r → ∀ v5 : Int32, v5 = nI c + Int32.ofInt 1 → wpX12_pairMany K 1 t (uI (uI li 1 v4) 2 v5) lj Q := by
        intro r er v4 f4 v5 f5
        refine ih (c + 1) K _ (by omega) (by omega) ?_ (f5.trans (hs_inc c))
        show v4 = hm_cnt (fun k => hm_ind (hm_low t k)) c + hm_ind (hm_low t c)
        rw [f4, e1, er]
      refine hm_isLower (by omega) (by omega) (fun q => ?_) (fun q => ?_)
      · exact hm_truth1 (by omega) (go 1 (hm_ind1 q).symm)
      · exact hm_truth0 (by omega) (go 0 (hm_ind0 q).symm)
theorem hm_pairMany {t : XT} {m K : Nat} {Q : Int32 → XT → Prop} (hm : t.1 3 = nI m) (hm60 : m ≤ 60) (hK : 80 ≤ K) (h : Q (hm_cnt (fun k => hm_ind (hm_low t k)) m) t) : wqX12_pairMany K t Q := by
  obtain ⟨K, rfl⟩ : ∃ K', K = K' + 1 := ⟨K - 1, by omega⟩
  show wbX12_pairMany_0 (wpX12_pairMany K) K t (fun _ => 0) (fun _ => 0) Q
  exact hm_pairMany_go hm hm60 h m 0 K _ (by omega) (by omega) rfl rfl
theorem hm_thereMany_go {t : XT} {m : Nat} {lj : Nat → Int64} {Q : Int32 → XT → Prop} (hm : t.1 3 = nI m) (hm60 : m ≤ 60) (h : Q (hm_cnt (fun k => hm_ind (hm_gone t k = 0)) m) t) :
    ∀ (n c K : Nat) (li : Nat → Int32), c + n = m → 2 * n + 10 ≤ K → li 1 = hm_cnt (fun k => hm_ind (hm_gone t k = 0)) c → li 2 = nI c → wpX12_thereMany K 1 t li lj Q := by
  intro n
  induction n with
  | zero =>
    intro c K li hn hK e1 e2
    obtain ⟨K, rfl⟩ : ∃ K', K = K' + 1 := ⟨K - 1, by omega⟩
    show wbX12_thereMany_1 (wpX12_thereMany K) K t li lj Q
    refine ⟨fun _ => ?_, fun c1 => absurd ?_ c1⟩
    · rw [e1, show c = m by omega]; exact h
    · rw [hm, e2]; exact nI_le (by omega) (by omega)
  | succ n ih =>
    intro c K li hn hK e1 e2
    obtain ⟨K, rfl⟩ : ∃ K', K = K' + 2 := ⟨K - 2, by omega⟩
    have go : ∀ r : Int32, r = hm_ind (hm_gone t c = 0) → ∀ v4 : Int32, v4 = li 1 + r → ∀ v5 : Int32, v5 = nI c + Int32.ofInt 1 → wpX12_thereMany K 1 t (uI (uI (uI (uI li 101 r) 100 (li 1)) 1 v4) 2 v5) lj Q := by
      intro r er v4 f4 v5 f5
      refine ih (c + 1) K _ (by omega) (by omega) ?_ (f5.trans (hs_inc c))
      show v4 = hm_cnt (fun k => hm_ind (hm_gone t k = 0)) c + hm_ind (hm_gone t c = 0)
      rw [f4, e1, er]
    show wbX12_thereMany_1 (wpX12_thereMany (K + 1)) (K + 1) t li lj Q
    refine ⟨fun c1 => absurd (show t.1 3 ≤ li 2 from c1) ?_, fun _ => ?_⟩
    · rw [hm, e2]; exact nI_ge (by omega) (by omega)
    · refine ⟨by rw [e2]; exact vp_in_nI (by omega) (by decide), fun v2 f2 => ?_⟩
      have f2 : v2 = hm_gone t c := f2.trans (congrArg (t.2.2.1 5) (by rw [e2]; exact nI_clamp (by omega)))
      refine ⟨fun q => ?_, fun q => ?_⟩
      · show wbX12_thereMany_2 (wpX12_thereMany K) K t (uI (uI li 101 0) 100 (li 1)) lj Q
        exact hm_truth0 (by omega) (fun v5 f5 v6 f6 => go 0 (hm_ind0 (fun z => q (f2.trans z))).symm v5 f5 v6 (f6.trans (congrArg (· + Int32.ofInt 1) e2)))
      · show wbX12_thereMany_2 (wpX12_thereMany K) K t (uI (uI li 101 1) 100 (li 1)) lj Q
        exact hm_truth1 (by omega) (fun v5 f5 v6 f6 => go 1 (hm_ind1 (f2.symm.trans q)).symm v5 f5 v6 (f6.trans (congrArg (· + Int32.ofInt 1) e2)))
theorem hm_thereMany {t : XT} {m K : Nat} {Q : Int32 → XT → Prop} (hm : t.1 3 = nI m) (hm60 : m ≤ 60) (hK : 140 ≤ K) (h : Q (hm_cnt (fun k => hm_ind (hm_gone t k = 0)) m) t) : wqX12_thereMany K t Q := by
  obtain ⟨K, rfl⟩ : ∃ K', K = K' + 1 := ⟨K - 1, by omega⟩
  show wbX12_thereMany_0 (wpX12_thereMany K) K t (fun _ => 0) (fun _ => 0) Q
  exact hm_thereMany_go hm hm60 h m 0 K _ (by omega) (by omega) rfl rfl
def hm_taken (t : XT) (d : Int32) (k : Nat) : Prop := t.2.2.1 11 k ≠ 0 ∧ hm_dim t k = d
theorem hm_takenOf_go {t : XT} {m : Nat} {d : Int32} {lj : Nat → Int64} {Q : Int32 → XT → Prop} (hm : t.1 3 = nI m) (hm60 : m ≤ 60) (h : Q (hm_cnt (fun k => hm_ind (hm_taken t d k)) m) t) :
    ∀ (n c K : Nat) (li : Nat → Int32), c + n = m → 3 * n + 10 ≤ K → li 1 = d → li 2 = hm_cnt (fun k => hm_ind (hm_taken t d k)) c → li 3 = nI c → wpX12_takenOf K 1 t li lj Q := by
  intro n
  induction n with
  | zero =>
    intro c K li hn hK e0 e1 e2
    obtain ⟨K, rfl⟩ : ∃ K', K = K' + 1 := ⟨K - 1, by omega⟩
    show wbX12_takenOf_1 (wpX12_takenOf K) K t li lj Q
    refine ⟨fun _ => ?_, fun c1 => absurd ?_ c1⟩
    · rw [e1, show c = m by omega]; exact h
    · rw [hm, e2]; exact nI_le (by omega) (by omega)
  | succ n ih =>
    intro c K li hn hK e0 e1 e2
    obtain ⟨K, rfl⟩ : ∃ K', K = K' + 3 := ⟨K - 3, by omega⟩
    have go : ∀ (K2 : Nat) (r : Int32) (l2 : Nat → Int32), K + 1 ≤ K2 → (r = 0 ∨ r = 1) → r = hm_ind (hm_taken t d c) → l2 1 = d → l2 100 = li 2 → l2 101 = r → l2 3 = nI c → wpX12_takenOf K2 3 t l2 lj Q := by
      intro K2 r l2 hK2 hr er g1 g100 g101 g3
      obtain ⟨K2, rfl⟩ : ∃ K', K2 = K' + 1 := ⟨K2 - 1, by omega⟩
      show wbX12_takenOf_3 (wpX12_takenOf K2) K2 t l2 lj Q
      have fin : ∀ v7 : Int32, v7 = l2 100 + r → ∀ v8 : Int32, v8 = l2 3 + Int32.ofInt 1 → wpX12_takenOf K2 1 t (uI (uI l2 2 v7) 3 v8) lj Q := by
        intro v7 f7 v8 f8
        refine ih (c + 1) K2 _ (by omega) (by omega) g1 ?_ (f8.trans ((congrArg (· + Int32.ofInt 1) g3).trans (hs_inc c)))
        show v7 = hm_cnt (fun k => hm_ind (hm_taken t d k)) c + hm_ind (hm_taken t d c)
        rw [f7, g100, e1, er]
      unfold wbX12_takenOf_3
      rw [g101]
      rcases hr with hr | hr
      · subst hr; exact hm_truth0 (by omega) fin
      · subst hr; exact hm_truth1 (by omega) fin
    have no : ∀ (K2 : Nat), K + 2 ≤ K2 → ¬ hm_taken t d c → wpX12_takenOf K2 2 t (uI li 100 (li 2)) lj Q := by
      intro K2 hK2 q
      obtain ⟨K2, rfl⟩ : ∃ K', K2 = K' + 1 := ⟨K2 - 1, by omega⟩
      show wbX12_takenOf_2 (wpX12_takenOf K2) K2 t (uI li 100 (li 2)) lj Q
      exact go K2 0 _ (by omega) (Or.inl rfl) (hm_ind0 q).symm e0 rfl rfl e2
    show wbX12_takenOf_1 (wpX12_takenOf (K + 2)) (K + 2) t li lj Q
    refine ⟨fun c1 => absurd (show t.1 3 ≤ li 3 from c1) ?_, fun _ => ?_⟩
    · rw [hm, e2]; exact nI_ge (by omega) (by omega)
    · refine ⟨by rw [e2]; exact vp_in_nI (by omega) (by decide), fun v2 f2 => ?_⟩
      have f2 : v2 = t.2.2.1 11 c := f2.trans (congrArg (t.2.2.1 11) (by rw [e2]; exact nI_clamp (by omega)))
      refine ⟨fun q => no _ (by omega) (fun z => z.1 (f2.symm.trans q)), fun q => ?_⟩
      have e2' := e2
      rw [e2]
      refine hm_dimOf (by omega) (by omega) ⟨fun y => no _ (by omega) (fun z => y (z.2.trans e0.symm)), fun y => ?_⟩
      exact go _ 1 _ (by omega) (Or.inr rfl) (hm_ind1 ⟨fun z => q (f2.trans z), y.trans e0⟩).symm e0 rfl rfl e2'
theorem hm_takenOf {t : XT} {m K : Nat} {d : Int32} {Q : Int32 → XT → Prop} (hm : t.1 3 = nI m) (hm60 : m ≤ 60) (hK : 200 ≤ K) (h : Q (hm_cnt (fun k => hm_ind (hm_taken t d k)) m) t) : wqX12_takenOf K t d Q := by
  obtain ⟨K, rfl⟩ : ∃ K', K = K' + 1 := ⟨K - 1, by omega⟩
  show wbX12_takenOf_0 (wpX12_takenOf K) K t (uI (fun _ => 0) 1 d) (fun _ => 0) Q
  exact hm_takenOf_go hm hm60 h m 0 K _ (by omega) (by omega) rfl rfl rfl
