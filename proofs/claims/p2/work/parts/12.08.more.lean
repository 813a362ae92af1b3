/-! ===== reference, pure: alternating, euler, greatestDim, level, simplex, room, keep, same ===== -/
theorem hq_alternating {t : XT} {k K : Nat} {Q : Int32 → XT → Prop} (hk : k < 60) (hK : 4 ≤ K) (hQ : ∀ r, Q r t) : wqX12_alternating K t (nI k) Q := by
  obtain ⟨K, rfl⟩ : ∃ K', K = K' + 1 := ⟨K - 1, by omega⟩
  show wbX12_alternating_0 (wpX12_alternating K) K t (uI (fun _ => 0) 1 (nI k)) (fun _ => 0) Q
  refine hm_dimOf hk (by omega) ?_
  exact ⟨by decide, fun v _ => ⟨fun _ => hQ _, fun _ => hQ _⟩⟩
theorem hq_euler_go {t : XT} {m : Nat} {lj : Nat → Int64} {Q : Int32 → XT → Prop} (hm : t.1 3 = nI m) (hm60 : m ≤ 60) (hQ : ∀ r, Q r t) :
    ∀ (d c K : Nat) (li : Nat → Int32), c + d = m → 2 * d + 20 ≤ K → li 2 = nI c → wpX12_euler K 1 t li lj Q := by
  intro d
  induction d with
  | zero =>
    intro c K li hd hK e4
    obtain ⟨K, rfl⟩ : ∃ K', K = K' + 1 := ⟨K - 1, by omega⟩
    show wbX12_euler_1 (wpX12_euler K) K t li lj Q
    exact ⟨fun _ => hQ _, fun x => absurd (by rw [hm, e4]; exact nI_le (by omega) (by omega)) x⟩
  | succ d ih =>
    intro c K li hd hK e4
    obtain ⟨K, rfl⟩ : ∃ K', K = K' + 2 := ⟨K - 2, by omega⟩
    have nx : ∀ li' : Nat → Int32, li' 2 = nI c → wpX12_euler (K + 1) 2 t li' lj Q := by
      intro li' e
      show wbX12_euler_2 (wpX12_euler K) K t li' lj Q
      intro v5 _ v ev
      exact ih (c + 1) K (uI (uI li' 1 v5) 2 v) (by omega) (by omega) (by show v = _; rw [ev, e]; exact hs_inc c)
    show wbX12_euler_1 (wpX12_euler (K + 1)) (K + 1) t li lj Q
    unfold wbX12_euler_1
    rw [e4]
    refine ⟨fun _ => hQ _, fun _ => ?_⟩
    refine hm_isThere hm hm60 (by omega) (fun j hj ej _ => ?_) (fun _ => ⟨fun _ => nx _ e4, fun x => absurd rfl x⟩)
    refine ⟨fun x => absurd x (by decide), fun _ => ?_⟩
    exact hq_alternating (by omega) (by omega) (fun r => nx _ e4)
theorem hq_euler {t : XT} {m K : Nat} {Q : Int32 → XT → Prop} (hm : t.1 3 = nI m) (hm60 : m ≤ 60) (hK : 200 ≤ K) (hQ : ∀ r, Q r t) : wqX12_euler K t Q := by
  obtain ⟨K, rfl⟩ : ∃ K', K = K' + 1 := ⟨K - 1, by omega⟩
  exact hq_euler_go (lj := fun _ => 0) hm hm60 hQ m 0 K (uI (uI (fun _ => 0) 1 0) 2 0) (by omega) (by omega) rfl
theorem hq_great_go {t : XT} {m : Nat} {lj : Nat → Int64} {Q : Int32 → XT → Prop} (hm : t.1 3 = nI m) (hm60 : m ≤ 60) (hQ : ∀ r, Q r t) :
    ∀ (d c K : Nat) (li : Nat → Int32), c + d = m → 2 * d + 20 ≤ K → li 2 = nI c → wpX12_greatestDim K 1 t li lj Q := by
  intro d
  induction d with
  | zero =>
    intro c K li hd hK e4
    obtain ⟨K, rfl⟩ : ∃ K', K = K' + 1 := ⟨K - 1, by omega⟩
    show wbX12_greatestDim_1 (wpX12_greatestDim K) K t li lj Q
    exact ⟨fun _ => hQ _, fun x => absurd (by rw [hm, e4]; exact nI_le (by omega) (by omega)) x⟩
  | succ d ih =>
    intro c K li hd hK e4
    obtain ⟨K, rfl⟩ : ∃ K', K = K' + 2 := ⟨K - 2, by omega⟩
    have nx : ∀ li' : Nat → Int32, li' 2 = nI c → wpX12_greatestDim (K + 1) 2 t li' lj Q := by
      intro li' e
      show wbX12_greatestDim_2 (wpX12_greatestDim K) K t li' lj Q
      intro v ev
      exact ih (c + 1) K (uI (uI li' 1 (li' 100)) 2 v) (by omega) (by omega) (by show v = _; rw [ev, e]; exact hs_inc c)
    show wbX12_greatestDim_1 (wpX12_greatestDim (K + 1)) (K + 1) t li lj Q
    unfold wbX12_greatestDim_1
    rw [e4]
    refine ⟨fun _ => hQ _, fun _ => ?_⟩
    refine hm_isThere hm hm60 (by omega) (fun j hj ej _ => ?_) (fun _ => ⟨fun _ => nx _ e4, fun x => absurd rfl x⟩)
    refine ⟨fun x => absurd x (by decide), fun _ => ?_⟩
    exact hm_dimOf (by omega) (by omega) (fun v _ => nx _ e4)
theorem hq_greatestDim {t : XT} {m K : Nat} {Q : Int32 → XT → Prop} (hm : t.1 3 = nI m) (hm60 : m ≤ 60) (hK : 200 ≤ K) (hQ : ∀ r, Q r t) : wqX12_greatestDim K t Q := by
  obtain ⟨K, rfl⟩ : ∃ K', K = K' + 1 := ⟨K - 1, by omega⟩
  exact hq_great_go (lj := fun _ => 0) hm hm60 hQ m 0 K (uI (uI (fun _ => 0) 1 (-1)) 2 0) (by omega) (by omega) rfl
theorem hq_heights {t : XT} {m n K : Nat} {Q : XT → Prop} (hI : hq_inv t m n) (hK : 10000000000000 ≤ K) (hQ : ∀ f, Q (sA t 6 f)) : wqX12_laysHeights K t Q := by
  obtain ⟨hm, hm60, ho, hM, hA, hn, h4, hp, hT⟩ := hI
  obtain ⟨ρ, hρ⟩ := hm_falls_of hm60 hM hA
  exact hm_laysHeights hm hm60 hρ hK (fun f _ => hQ f)
theorem hq_level_go {t : XT} {m : Nat} {lj : Nat → Int64} {Q : Int32 → XT → Prop} (hm : t.1 3 = nI m) (hm60 : m ≤ 60) (hQ : ∀ r, Q r t) :
    ∀ (d c K : Nat) (li : Nat → Int32), c + d = m → 3 * d + 20 ≤ K → li 4 = nI c → wpX12_level K 2 t li lj Q := by
  intro d
  induction d with
  | zero =>
    intro c K li hd hK e4
    obtain ⟨K, rfl⟩ : ∃ K', K = K' + 1 := ⟨K - 1, by omega⟩
    show wbX12_level_2 (wpX12_level K) K t li lj Q
    exact ⟨fun _ => hQ _, fun x => absurd (by rw [hm, e4]; exact nI_le (by omega) (by omega)) x⟩
  | succ d ih =>
    intro c K li hd hK e4
    obtain ⟨K, rfl⟩ : ∃ K', K = K' + 3 := ⟨K - 3, by omega⟩
    have nx : ∀ (K' : Nat) (li' : Nat → Int32), K + 1 ≤ K' → li' 4 = nI c → wpX12_level K' 4 t li' lj Q := by
      intro K' li' hK' e
      obtain ⟨K', rfl⟩ : ∃ K'', K' = K'' + 1 := ⟨K' - 1, by omega⟩
      show wbX12_level_4 (wpX12_level K') K' t li' lj Q
      intro v ev
      exact ih (c + 1) K' (uI li' 4 v) (by omega) (by omega) (by show v = _; rw [ev, e]; exact hs_inc c)
    have nx3 : ∀ li' : Nat → Int32, li' 4 = nI c → wpX12_level (K + 2) 3 t li' lj Q := by
      intro li' e
      show wbX12_level_3 (wpX12_level (K + 1)) (K + 1) t li' lj Q
      intro v _
      exact nx (K + 1) (uI li' 3 v) (by omega) e
    show wbX12_level_2 (wpX12_level (K + 2)) (K + 2) t li lj Q
    unfold wbX12_level_2
    rw [e4]
    refine ⟨fun _ => hQ _, fun _ => ?_⟩
    refine hm_isThere hm hm60 (by omega) (fun j hj ej _ => ?_) (fun _ => ⟨fun _ => nx _ _ (by omega) e4, fun x => absurd rfl x⟩)
    refine ⟨fun x => absurd x (by decide), fun _ => ⟨vp_in_nI (by omega) (by decide), fun v8 _ => ⟨fun _ => nx _ _ (by omega) e4, fun _ => ⟨fun _ => ?_, fun _ => nx3 _ e4⟩⟩⟩⟩
    exact hq_alternating (by omega) (by omega) (fun r => nx3 _ e4)
theorem hq_level {t : XT} {m n K : Nat} {a b : Int32} {Q : Int32 → XT → Prop} (hI : hq_inv t m n) (hK : 10000000000001 ≤ K) (hQ : ∀ r t', hq_key t' = hq_key t → hq_inv t' m n → Q r t') : wqX12_level K t a b Q := by
  obtain ⟨B, hB⟩ : ∃ B, B = 10000000000000 := ⟨_, rfl⟩
  have hK : B + 1 ≤ K := by omega
  have hB3 : 300 ≤ B := by omega
  obtain ⟨K, rfl⟩ : ∃ K', K = K' + 1 := ⟨K - 1, by omega⟩
  have out : wpX12_level K 1 t (uI (uI (fun _ => 0) 1 a) 2 b) (fun _ => 0) Q := by
    obtain ⟨K, rfl⟩ : ∃ K', K = K' + 1 := ⟨K - 1, by omega⟩
    exact hQ (-1) t rfl hI
  show wbX12_level_0 (wpX12_level K) K t (uI (uI (fun _ => 0) 1 a) 2 b) (fun _ => 0) Q
  refine ⟨fun _ => out, fun _ => ?_⟩
  refine hm_in (by omega) ?_
  refine ⟨fun _ => ?_, fun _ => out⟩
  refine hq_heights hI (by omega) (fun f => ?_)
  exact hq_level_go (t := sA t 6 f) hI.1 hI.2.1 (fun r => hQ r _ rfl (hq_frame rfl rfl rfl rfl rfl rfl hI)) m 0 K _ (by omega) (by have := hI.2.1; omega) rfl
theorem hq_simplex {t : XT} {m n K : Nat} {a b : Int32} {Q : Int32 → XT → Prop} (hI : hq_inv t m n) (hK : 10000000000001 ≤ K) (hQ : ∀ r t', hq_key t' = hq_key t → hq_inv t' m n → Q r t') : wqX12_simplex K t a b Q := by
  obtain ⟨B, hB⟩ : ∃ B, B = 10000000000000 := ⟨_, rfl⟩
  have hK : B + 1 ≤ K := by omega
  have hB3 : 300 ≤ B := by omega
  obtain ⟨K, rfl⟩ : ∃ K', K = K' + 1 := ⟨K - 1, by omega⟩
  have hm := hI.1
  have hm60 := hI.2.1
  have me : ∀ r, Q r t := fun r => hQ r t rfl hI
  have one : ∀ li : Nat → Int32, wpX12_simplex K 1 t li (fun _ => 0) Q := by
    intro li
    obtain ⟨K, rfl⟩ : ∃ K', K = K' + 1 := ⟨K - 1, by omega⟩
    show wbX12_simplex_1 (wpX12_simplex K) K t li (fun _ => 0) Q
    exact hm_truth (by omega) (me _)
  show wbX12_simplex_0 (wpX12_simplex K) K t (uI (uI (fun _ => 0) 1 a) 2 b) (fun _ => 0) Q
  refine hm_isSimplex (a := a) hm (by omega) ?_
  rcases hm_num hm60 a with ⟨j, hj, ea, hr⟩ | ⟨_, hr⟩
  · rw [if_pos hr]
    subst ea
    have inb : vp_in (nI j) 60 := vp_in_nI (by omega) (by decide)
    refine ⟨fun _ => ⟨fun _ => me _, fun _ => ⟨inb, fun v _ => me _⟩, fun _ => hm_dimOf (by omega) (by omega) (me _), fun _ => ⟨inb, fun v _ => ⟨fun _ => one _, fun _ => one _⟩⟩, fun _ => ⟨inb, fun v _ => me _⟩, fun _ => ⟨inb, fun v _ => ⟨fun _ => ?_, fun _ => me _⟩⟩, fun _ => ⟨inb, fun v _ => ⟨fun _ => ?_, fun _ => me _⟩⟩, fun _ => hm_facesOver hm hm60 (by omega) (by omega) (me _)⟩, fun c => absurd c (by decide)⟩
    · exact hm_isLower (by omega) (by omega) (fun _ => hm_truth (by omega) (me _)) (fun _ => hm_truth (by omega) (me _))
    · refine hq_heights hI (by omega) (fun f => ⟨inb, fun v _ => ?_⟩)
      exact hQ _ _ rfl (hq_frame rfl rfl rfl rfl rfl rfl hI)
  · rw [if_neg hr]
    exact ⟨fun c => absurd rfl c, fun _ => me _⟩
theorem hq_room_in {m n f : Nat} {z : Int32 × Int32 × (Nat → Int32) × (Nat → Int32)} {lj : Nat → Int64} {Q : Int32 → XT → Prop} (hf : f < m) (L : Nat) (hL : 40000 ≤ L)
    (cont : ∀ (K' : Nat) (t' : XT) (li' : Nat → Int32), L ≤ K' → hq_inv t' m n → hq_key t' = z → li' 3 = nI (f + 1) → wpX12_room K' 1 t' li' lj Q) :
    ∀ (d s K : Nat) (t : XT) (li : Nat → Int32), s + d = m → 2 * d + L + 1 ≤ K → hq_inv t m n → hq_key t = z → li 3 = nI f → li 4 = nI s → wpX12_room K 2 t li lj Q := by
  intro d
  induction d with
  | zero =>
    intro s K t li hd hK hI ez e1 e2
    obtain ⟨K, rfl⟩ : ∃ K', K = K' + 1 := ⟨K - 1, by omega⟩
    have hm := hI.1
    have hm60 := hI.2.1
    show wbX12_room_2 (wpX12_room K) K t li lj Q
    refine ⟨fun _ v e => cont K t (uI li 3 v) (by omega) hI ez (by show v = _; rw [e, e1]; exact hs_inc f), fun x => absurd (by rw [hm, e2]; exact nI_le (by omega) (by omega)) x⟩
  | succ d ih =>
    intro s K t li hd hK hI ez e1 e2
    obtain ⟨K, rfl⟩ : ∃ K', K = K' + 2 := ⟨K - 2, by omega⟩
    have hm := hI.1
    have hm60 := hI.2.1
    have nx : ∀ t' (li' : Nat → Int32), hq_inv t' m n → hq_key t' = z → li' 3 = nI f → li' 4 = nI s → wpX12_room (K + 1) 3 t' li' lj Q := by
      intro t' li' hI' ez' a1 a2
      show wbX12_room_3 (wpX12_room K) K t' li' lj Q
      intro v e
      have e : v = nI (s + 1) := by rw [e, a2]; exact hs_inc s
      exact ih (s + 1) K t' (uI li' 4 v) (by omega) (by omega) hI' ez' a1 e
    show wbX12_room_2 (wpX12_room (K + 1)) (K + 1) t li lj Q
    unfold wbX12_room_2
    rw [e1, e2]
    refine ⟨fun x => absurd (show t.1 3 ≤ nI s from x) (by rw [hm]; exact nI_ge (by omega) (by omega)), fun _ => ?_⟩
    refine hm_dimOf (by omega) (by omega) ?_
    refine ⟨fun _ => nx t li hI ez e1 e2, fun _ => ?_⟩
    refine hm_isFaceThere (by omega) (by omega) (by omega) (fun hF => ?_) (fun _ => ⟨fun _ => nx t li hI ez e1 e2, fun c => absurd rfl c⟩)
    refine ⟨fun c => absurd c (by decide), fun _ => ?_⟩
    refine hq_isFree (by omega) (by omega) (by omega) (fun ef es => ?_) (fun _ => ⟨fun _ => nx t li hI ez e1 e2, fun c => absurd rfl c⟩)
    refine ⟨fun c => absurd c (by decide), fun _ => ?_⟩
    refine hq_couples_inv hI hf (by omega) hF ef es (by omega) (fun r t' a b => ⟨fun _ => nx t' li b (a.trans ez) e1 e2, fun _ => ?_⟩)
    refine hq_frees hm60 hf b.2.2.2.1 (by omega) (fun v _ => ?_)
    exact nx _ (uI li 2 v) (hq_free_inv b hf) (a.trans ez) e1 e2
theorem hq_room_out {m n : Nat} {z : Int32 × Int32 × (Nat → Int32) × (Nat → Int32)} {lj : Nat → Int64} {Q : Int32 → XT → Prop} (hQ : ∀ r t', hq_key t' = z → hq_inv t' m n → Q r t') :
    ∀ (d f K : Nat) (t : XT) (li : Nat → Int32), f + d = m → 200 * d + 41000 ≤ K → hq_inv t m n → hq_key t = z → li 3 = nI f → wpX12_room K 1 t li lj Q := by
  intro d
  induction d with
  | zero =>
    intro f K t li hd hK hI ez e1
    obtain ⟨K, rfl⟩ : ∃ K', K = K' + 1 := ⟨K - 1, by omega⟩
    have hm := hI.1
    have hm60 := hI.2.1
    show wbX12_room_1 (wpX12_room K) K t li lj Q
    exact ⟨fun _ => hQ _ t ez hI, fun x => absurd (by rw [hm, e1]; exact nI_le (by omega) (by omega)) x⟩
  | succ d ih =>
    intro f K t li hd hK hI ez e1
    obtain ⟨K, rfl⟩ : ∃ K', K = K' + 1 := ⟨K - 1, by omega⟩
    have hm := hI.1
    have hm60 := hI.2.1
    show wbX12_room_1 (wpX12_room K) K t li lj Q
    refine ⟨fun _ => hQ _ t ez hI, fun _ => ?_⟩
    obtain ⟨L, hL⟩ : ∃ L, L = 200 * d + 41001 := ⟨_, rfl⟩
    exact hq_room_in (m := m) (n := n) (f := f) (z := z) (by omega) L (by omega) (fun K' t' li' hK' hI' ez' e1' => ih (f + 1) K' t' li' (by omega) (by omega) hI' ez' e1') m 0 K t (uI li 4 0) (by omega) (by omega) hI ez e1 rfl
theorem hq_room {t : XT} {m n K : Nat} {a : Int32} {Q : Int32 → XT → Prop} (hI : hq_inv t m n) (hK : 60000 ≤ K) (hQ : ∀ r t', hq_key t' = hq_key t → hq_inv t' m n → Q r t') : wqX12_room K t a Q := by
  obtain ⟨K, rfl⟩ : ∃ K', K = K' + 1 := ⟨K - 1, by omega⟩
  have hm60 := hI.2.1
  show wbX12_room_0 (wpX12_room K) K t (uI (fun _ => 0) 1 a) (fun _ => 0) Q
  refine hm_in (by omega) ?_
  refine ⟨fun _ => ?_, fun _ => hQ _ t rfl hI⟩
  exact hq_room_out hQ m 0 K t _ (by omega) (by omega) hI rfl rfl
