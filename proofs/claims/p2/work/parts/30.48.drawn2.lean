/-! ===== the class's peeling by DRAWS, exactly ===== -/
theorem hpx_pd_3 {K : Nat} {t : XT} {li : Nat → Int32} {lj : Nat → Int64} {Q : Int32 → XT → Prop} (h : Q (li 1) t) : wpX11_peelByDraws (K + 1) 3 t li lj Q := h
theorem hpx_pd_go {t0 : XT} {L : Nat → Int32} {c : Nat} {A X : Int32} {Q : Int32 → XT → Prop} (hE0 : hcE t0 L c) (hL : hnL L c) (hQ : ∀ t', hpN t' = hpN t0 → t'.1 0 = X → Q A t') :
    ∀ (d i K : Nat) (O : Nat → Prop) (x a : Int32) (t : XT) (li : Nat → Int32) (lj : Nat → Int64), i + d = 60 → 4 * d + 600 ≤ K → hpN t = hpN t0 → hpO t L c O → t.1 0 = x → 0 ≤ x → hst_n O c ≤ d → hdp L c d O x a = (A, X) → li 1 = a → li 2 = nI i → wpX11_peelByDraws K 1 t li lj Q := by
  have hc := hL.1
  intro d
  induction d with
  | zero =>
    intro i K O x a t li lj hd hK hn hO ex hx ho hp e1 e2
    obtain ⟨K, rfl⟩ : ∃ K', K = K' + 2 := ⟨K - 2, by omega⟩
    obtain rfl : i = 60 := by omega
    have hp : (a, x) = (A, X) := hp
    have pa : a = A := congrArg (fun q => q.1) hp
    have px : x = X := congrArg (fun q => q.2) hp
    show wbX11_peelByDraws_1 (wpX11_peelByDraws (K + 1)) (K + 1) t li lj Q
    refine ⟨fun _ => hpx_pd_3 (by rw [e1, pa]; exact hQ t hn (ex.trans px)), fun z => absurd (show nI 60 ≤ li 2 by rw [e2]; exact nI_le (by omega) (by omega)) z⟩
  | succ d ih =>
    intro i K O x a t li lj hd hK hn hO ex hx ho hp e1 e2
    obtain ⟨K, rfl⟩ : ∃ K', K = K' + 2 := ⟨K - 2, by omega⟩
    have hE := hcE_K (congrArg (fun q => q.1) hn) hE0
    have nx : ∀ (O' : Nat → Prop) (a' : Int32) (t' : XT) (li' : Nat → Int32), hpN t' = hpN t0 → hpO t' L c O' → t'.1 0 = hdn x → 0 ≤ hdn x → hst_n O' c ≤ d → hdp L c d O' (hdn x) a' = (A, X) → li' 1 = a' → li' 2 = nI i → wpX11_peelByDraws (K + 1) 2 t' li' lj Q := by
      intro O' a' t' li' b1 b2 b3 b4 b5 b6 b7 b8
      show wbX11_peelByDraws_2 (wpX11_peelByDraws K) K t' li' lj Q
      intro v e
      exact ih (i + 1) K O' (hdn x) a' t' _ lj (by omega) (by omega) b1 b2 b3 b4 b5 b6 b7 (by show v = _; rw [e, b8]; exact hs_inc i)
    have dn : 0 ≤ hdn x := (hdr_x (c := 1) hx (by omega) (by omega)).2
    show wbX11_peelByDraws_1 (wpX11_peelByDraws (K + 1)) (K + 1) t li lj Q
    unfold wbX11_peelByDraws_1
    rw [e2]
    refine ⟨fun z => absurd (show nI 60 ≤ nI i from z) (nI_ge (by omega) (by omega)), fun _ v3 e3 => ⟨fun z => ?_, fun nz => ?_⟩⟩
    · rw [e3] at z
      have no : ∀ k, k < c → ¬ O k := fun k hk2 ok => absurd ((hO.1 k).mpr ⟨hk2, ok⟩) (by rw [hb_z z k]; decide)
      rw [hdp_0 no] at hp
      have pa : a = A := congrArg (fun q => q.1) hp
      have px : x = X := congrArg (fun q => q.2) hp
      exact hpx_pd_3 (by rw [e1, pa]; exact hQ t hn (ex.trans px))
    · intro v5 e5
      refine ⟨fun z => ?_, fun nz5 => ?_⟩
      · rw [e5] at z
        have no : ∀ k, k < c → ¬ hdS L c O k := fun k hk w => absurd ((hO.2 k).mpr ⟨hk, w⟩) (by rw [hb_z z k]; decide)
        obtain ⟨k0, hk0, ok0⟩ : ∃ k, k < c ∧ O k := by
          rcases @hb_ne (t.2.1 3) with y | ⟨k, _, kb, _⟩
          · exact absurd (by rw [e3, y]; decide) nz
          · exact ⟨k, (hO.1 k).mp kb⟩
        refine hpx_greatest hE hL hO hk0 ok0 (by omega) (fun dd v dd5 hg exd hv => ?_)
        refine hpx_drawFrom hv hc (by rw [ex]; exact hx) exd (by omega) (fun j hj => ?_)
        rw [ex] at hj ⊢
        have h2 : hd2 L c O x j := ⟨dd, dd5, hg, hj⟩
        refine vyX7_close (ha_0 (hdn x)) rfl (hpx_close (t := sI t 0 (hdn x)) (Q := fun t' => hpN t' = hpN t ∧ hpO t' L c (fun k => O k ∧ k ≠ j)) hE hO hc hj.1 (by omega) (fun t' n o => ⟨n, o⟩)) (fun t9 h9 x9 v10 e10 => ?_)
        rw [hdp_2 hc (hd_none no) h2] at hp
        have hdel := hst_del hj.1 hj.2.1.1
        exact nx _ (a + 1) t9 _ (h9.1.trans hn) h9.2 x9 dn (by omega) hp (by show v10 = _; rw [e10, e1]; rfl) e2
      · obtain ⟨k0, hk0, sk0⟩ : ∃ k, k < c ∧ hdS L c O k := by
          rcases @hb_ne (t.2.1 4) with y | ⟨k, _, kb, _⟩
          · exact absurd (by rw [e5, y]; decide) nz5
          · exact ⟨k, (hO.2 k).mp kb⟩
        refine hpx_drawFrom (p := hdS L c O) hO.2 hc (by rw [ex]; exact hx) ⟨k0, hk0, sk0⟩ (by omega) (fun j hj => ?_)
        rw [ex] at hj ⊢
        obtain ⟨jo, s, js⟩ := hj.2.1
        have h1 : hd1 L c O x j s := ⟨hj, js⟩
        have sc := js.1
        have js2 : j < s := js.2.2.1.1
        refine hpx_above (t := sI t 0 (hdn x)) hE hO hc hj.1 js (by omega) ?_
        refine vyX7_close (ha_0 (hdn x)) rfl (hpx_close (t := sI t 0 (hdn x)) (Q := fun t' => hpN t' = hpN t ∧ hpO t' L c (fun k => O k ∧ k ≠ s)) hE hO hc sc (by omega) (fun t' n o => ⟨n, o⟩)) (fun t9 h9 x9 => ?_)
        have n9 := h9.1.trans hn
        refine vyX7_close (ha_0 (hdn x)) x9 (hpx_close (t := t9) (Q := fun t' => hpN t' = hpN t9 ∧ hpO t' L c (fun k => (O k ∧ k ≠ s) ∧ k ≠ j)) (hcE_K (congrArg (fun q => q.1) n9) hE0) h9.2 hc hj.1 (by omega) (fun t' n o => ⟨n, o⟩)) (fun t10 h10 x10 => ?_)
        rw [hdp_1 hc h1] at hp
        have d1 := hst_del sc js.2.1
        have d2 := hst_del (p := fun k => O k ∧ k ≠ s) hj.1 ⟨jo, by omega⟩
        exact nx _ a t10 _ (h10.1.trans n9) h10.2 x10 dn (by omega) hp e1 e2
theorem hpx_pd {t : XT} {L P : Nat → Int32} {G : Nat → Prop} {c K : Nat} {Q : Int32 → XT → Prop} (hE : hcE t L c) (hL : hnL L c) (hX : hpX t c P G) (hx : 0 ≤ t.1 0) (hK : 1500 ≤ K) (hQ : ∀ t', hpN t' = hpN t → t'.1 0 = (hdp L c 60 (fun k => ¬ G k) (t.1 0) 0).2 → Q (hdp L c 60 (fun k => ¬ G k) (t.1 0) 0).1 t') : wqX11_peelByDraws K t Q := by
  have hc := hL.1
  obtain ⟨K, rfl⟩ : ∃ K', K = K' + 1 := ⟨K - 1, by omega⟩
  show wbX11_peelByDraws_0 (wpX11_peelByDraws K) K t (fun _ => 0) (fun _ => 0) Q
  refine vyX7_begin (ha_0 (t.1 0)) rfl (hpx_begin (Q := fun t' => hpN t' = hpN t ∧ hpO t' L c (fun k => ¬ G k)) hE hX hc (by omega) (fun t' n o => ⟨n, o⟩)) (fun t1 h1 x1 => ?_)
  have l := hst_le (fun k => ¬ G k) c
  exact hpx_pd_go hE hL hQ 60 0 K _ (t.1 0) 0 t1 _ _ (by omega) (by omega) h1.1 h1.2 x1 hx (Nat.le_trans l hc) rfl rfl rfl
theorem hdp_x {L : Nat → Int32} {c : Nat} : ∀ (d : Nat) (O : Nat → Prop) (x a : Int32), 0 ≤ x → 0 ≤ (hdp L c d O x a).2 := by
  intro d
  induction d with
  | zero => intro O x a hx; exact hx
  | succ d ih =>
    intro O x a hx
    have dn : 0 ≤ hdn x := (hdr_x (c := 1) hx (by omega) (by omega)).2
    unfold hdp
    by_cases q : ∃ q : Nat × Nat, hd1 L c O x q.1 q.2
    · rw [@if_pos _ (Classical.propDecidable _) q]; exact ih _ _ _ dn
    · rw [@if_neg _ (Classical.propDecidable _) q]
      by_cases r : ∃ j, hd2 L c O x j
      · rw [@if_pos _ (Classical.propDecidable _) r]; exact ih _ _ _ dn
      · rw [@if_neg _ (Classical.propDecidable _) r]; exact hx
