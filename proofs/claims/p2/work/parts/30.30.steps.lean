/-! ===== both sides go the same steps; the class's HEIGHTS and their order, in the reference's words ===== -/
theorem hT_step {tx tm : XT} {L : Nat → Int32} {c n' : Nat} (hE : hcE tx L c) (hM : hmE tm L c) (hL : hnL L c) (hP : hPJ tx tm c) (hI : hq_inv tm c n') {k x : Nat} (hk : k < c) (hx : x < c) (gk : hm_gone tm k = 0) (gx : hm_gone tm x = 0) : ht_s (tx.2.2.1 5) (tx.2.2.2 0) k x ↔ hm_step tm k x := by
  have hc := hL.1
  have ep : tx.2.2.1 5 k = hm_par tm k := hP.1 k hk
  have f1 : hm_faceT tm x k ↔ hnF L k x := (hmx_faceT hM hL hx hk gx).trans ⟨fun w => w.1, fun w => ⟨w, fun z => z gk⟩⟩
  have f2 : hm_faceT tm k x ↔ hnF L x k := (hmx_faceT hM hL hk hx gk).trans ⟨fun w => w.1, fun w => ⟨w, fun z => z gx⟩⟩
  have fb : hb (tx.2.2.2 0 k) x = true ↔ hnF L k x := (hE.2.2.2.2.1 k x).trans ⟨fun w => w.2, fun w => ⟨hk, w⟩⟩
  unfold ht_s hm_step
  rw [ep, f1, f2]
  rcases hI.2.2.2.1 k hk with e | ⟨p, hp, e, ep', ord⟩
  · rw [e]
    refine ⟨fun w => ?_, fun w => ?_⟩
    · rcases w with ⟨_, w⟩ | ⟨p, hp, w, _⟩
      · exact Or.inl ⟨fb.mp w, fun z => hs_nI_neg (by omega) z.symm⟩
      · exact absurd w.symm (hs_nI_neg (by omega))
    · rcases w with ⟨w, _⟩ | ⟨_, w⟩
      · exact Or.inl ⟨rfl, fb.mpr w⟩
      · exact absurd w.symm (hs_nI_neg (by omega))
  · rw [e]
    have fp : (k < p ∧ hnF L p k) ∨ (p < k ∧ hnF L k p) := ord.elim (fun w => Or.inl ⟨w.1, (hf_face hM hL hk hp).mp w.2⟩) (fun w => Or.inr ⟨w.1, (hf_face hM hL hp hk).mp w.2⟩)
    have eqp : ∀ q, q < 64 → nI p = nI q → q = p := fun q hq w => ((nI_eq (by omega) (by omega)).mp w).symm
    by_cases z : x = p
    · subst z
      refine ⟨fun w => ?_, fun w => ?_⟩
      · rcases w with ⟨w, _⟩ | ⟨q, hq, w, b⟩
        · exact absurd w (hs_nI_neg (by omega))
        · have := eqp q hq w
          subst this
          rcases fp with y | y
          · exact Or.inr ⟨y.2, rfl⟩
          · rw [fb.mpr y.2, decide_eq_true rfl] at b; exact absurd b (by decide)
      · rcases w with ⟨_, w⟩ | ⟨w, _⟩
        · exact absurd rfl w
        · refine Or.inr ⟨x, by omega, rfl, ?_⟩
          have nf : hb (tx.2.2.2 0 k) x = false := by
            cases q : hb (tx.2.2.2 0 k) x with
            | false => rfl
            | true =>
              have a := (fb.mp q).1
              have b := w.1
              omega
          rw [nf, decide_eq_true rfl]; rfl
    · refine ⟨fun w => ?_, fun w => ?_⟩
      · rcases w with ⟨w, _⟩ | ⟨q, hq, w, b⟩
        · exact absurd w (hs_nI_neg (by omega))
        · have := eqp q hq w
          subst this
          rw [decide_eq_false (fun y => z y.symm), Bool.xor_false] at b
          exact Or.inl ⟨fb.mp b, fun y => z ((nI_eq (by omega) (by omega)).mp y).symm⟩
      · rcases w with ⟨w, _⟩ | ⟨_, w⟩
        · refine Or.inr ⟨p, by omega, rfl, ?_⟩
          rw [fb.mpr w, decide_eq_false (fun y => z y.symm)]; rfl
        · exact absurd ((nI_eq (by omega) (by omega)).mp w).symm z
/-- the class's HEIGHTS and their order -/
def hTL (t tm : XT) (c : Nat) (h : Nat → Nat) (o : Nat) (g : Nat → Nat) : Prop := hHt (hm_step tm) c h ∧ (∀ k, k < c → hm_gone tm k = 0 → t.2.2.1 6 k = nI (h k) ∧ h k < 64) ∧ o ≤ 60 ∧ t.1 6 = nI o ∧ (∀ j, j < o → t.2.2.1 7 j = nI (g j) ∧ g j < c ∧ hm_gone tm (g j) = 0) ∧ (∀ j l, j < o → l < o → g j = g l → j = l) ∧ (∀ k, k < c → hm_gone tm k = 0 → ∃ j, j < o ∧ g j = k) ∧ ∀ j x, j < o → x < c → hm_step tm (g j) x → ∃ l, l < j ∧ g l = x
theorem hm_step_there {t : XT} {k o : Nat} (h : hm_step t k o) : hm_gone t k = 0 ∧ hm_gone t o = 0 := h.elim (fun w => ⟨w.1.2.1, w.1.1⟩) (fun w => ⟨w.1.1, w.1.2.1⟩)
theorem hT_lay {tx tm : XT} {L : Nat → Int32} {c n' : Nat} (hE : hcE tx L c) (hM : hmE tm L c) (hL : hnL L c) (hP : hPJ tx tm c) (hI : hq_inv tm c n') (hT : hT_l tx) : ∃ h o g, hTL tx tm c h o g := by
  have hc := hL.1
  obtain ⟨o, g, h, m, m1, m2, ⟨q1, q2, q3, q4, q5, q6⟩, r1, r2⟩ := hT
  obtain rfl : m = c := (nI_eq (by omega) (by omega)).mp (m1.symm.trans hE.1)
  have th : ∀ x, hb (tx.2.1 0) x = true ↔ (x < m ∧ hm_gone tm x = 0) := fun x => (hP.2.2.1 x).trans (and_congr_right (fun _ => ⟨fun w => Classical.byContradiction w, fun w z => z w⟩))
  obtain ⟨ρ, hρ⟩ := hm_falls_of hc hI.2.2.2.1 hI.2.2.2.2.1
  have all := r2 (fun x _ w => ((th x).mp w).1) ⟨ρ, fun k x _ _ a b s => hρ.2 k x ((th k).mp a).1 ((th x).mp b).1 ((hT_step hE hM hL hP hI ((th k).mp a).1 ((th x).mp b).1 ((th k).mp a).2 ((th x).mp b).2).mp s)⟩
  have lst : ∀ j, j < o → g j < m ∧ hm_gone tm (g j) = 0 := fun j hj => (th _).mp (q3.1 j hj).2.1
  have om : o ≤ m := hT_pig m o g (fun j hj => (lst j hj).1) (fun j l a b => q3.2 j l a b)
  have get : ∀ k, k < m → hm_gone tm k = 0 → ∃ j, j < o ∧ g j = k := fun k hk gk => all k (by omega) ((th k).mpr ⟨hk, gk⟩)
  have stp : ∀ k x, k < m → x < m → hm_step tm k x → hb (tx.2.1 0) x = true ∧ ht_s (tx.2.2.1 5) (tx.2.2.2 0) k x := fun k x hk hx s => ⟨(th x).mpr ⟨hx, (hm_step_there s).2⟩, (hT_step hE hM hL hP hI hk hx (hm_step_there s).1 (hm_step_there s).2).mpr s⟩
  refine ⟨fun k => hq_sel (hm_gone tm k = 0) (h k), o, g, ⟨fun k x hk hx s => ?_, fun k hk p => ?_⟩, fun k hk gk => ?_, by omega, q1, fun j hj => ⟨q2 j hj, lst j hj⟩, fun j l a b => q3.2 j l a b, get, fun j x hj hx s => ?_⟩
  · obtain ⟨gk, gx⟩ := hm_step_there s
    obtain ⟨j, hj, ej⟩ := get k hk gk
    obtain ⟨a, b⟩ := stp k x hk hx s
    show hq_sel _ (h x) < hq_sel _ (h k)
    rw [hq_sel1 gx, hq_sel1 gk, ← ej]
    exact q5 j x hj (by omega) a (ej ▸ b)
  · by_cases gk : hm_gone tm k = 0
    · have p : 0 < hq_sel (hm_gone tm k = 0) (h k) := p
      rw [hq_sel1 gk] at p
      obtain ⟨j, hj, ej⟩ := get k hk gk
      obtain ⟨x, hx, tx', sx, le⟩ := q6 j hj (by rw [ej]; exact p)
      obtain ⟨xm, gx⟩ := (th x).mp tx'
      rw [ej] at sx le
      refine ⟨x, xm, (hT_step hE hM hL hP hI hk xm gk gx).mp sx, ?_⟩
      show hq_sel _ (h k) ≤ hq_sel _ (h x) + 1
      rw [hq_sel1 gk, hq_sel1 gx]; exact le
    · have p : 0 < hq_sel (hm_gone tm k = 0) (h k) := p
      rw [hq_sel0 gk] at p
      exact absurd p (by omega)
  · obtain ⟨j, hj, ej⟩ := get k hk gk
    show _ = nI (hq_sel _ (h k)) ∧ hq_sel _ (h k) < 64
    rw [hq_sel1 gk, ← ej]
    exact ⟨q4 j hj, (r1 j hj).2⟩
  · obtain ⟨a, b⟩ := stp (g j) x (lst j hj).1 hx s
    exact (q3.1 j hj).2.2 x (by omega) a b
theorem hcE_fr {t t' : XT} {L : Nat → Int32} {c : Nat} (f : ht_fr t t') (h : hcE t L c) : hcE t' L c := by
  unfold hcE at h ⊢
  rw [f.1 4 (by decide) (by decide), f.2.2.1 2 (by decide) (by decide), f.2.2.1 3 (by decide) (by decide), f.2.2.1 4 (by decide) (by decide), f.2.2.2]; exact h
theorem hPJ_fr {t t' tm : XT} {c : Nat} (f : ht_fr t t') (h : hPJ t tm c) : hPJ t' tm c := by
  unfold hPJ hpX at h ⊢
  rw [f.2.2.1 5 (by decide) (by decide), f.2.1]; exact h
theorem hpx_measure {tx tm : XT} {L : Nat → Int32} {c n n' K : Nat} {Q : XT → Prop} (hE : hcE tx L c) (hM : hmE tm L c) (hL : hnL L c) (hP : hPJ tx tm c) (hI : hq_inv tm c n') (g : hNk n tx) (hK : 300 ≤ K) (hQ : ∀ t' h o g, ht_fr tx t' → hcE t' L c → hPJ t' tm c → hTL t' tm c h o g → Q t') : wqX2_measure K tx Q := by
  obtain ⟨b, hb', hn⟩ := g
  obtain ⟨⟨m, hm⟩, _⟩ := id hn
  refine hT_measure hm (hN_fresh hn (ho_b0 hb')) hK (fun t' _ fr _ tp => ?_)
  have hE' := hcE_fr fr hE
  have hP' := hPJ_fr fr hP
  obtain ⟨h, o, g, w⟩ := hT_lay hE' hM hL hP' hI tp
  exact hQ t' h o g fr hE' hP' w
