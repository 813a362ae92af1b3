/-! ===== staysAcyclic and isAcyclic say the same ===== -/
theorem hm_acyc_of {t : XT} {c : Nat} (hc : c ≤ 60) (δ : Nat → Nat) (h : ∀ f g, f < c → g < c → hm_low t f → hm_low t g → g ≠ f → hm_on t f g → δ g < δ f) : hm_acyc t c := by
  refine ⟨fun f => hst_n (fun g => hm_low t g ∧ δ g < δ f) c, fun f hf lf => ?_, fun f g hf hg lf lg ne on => ?_⟩
  · have a := @hst_lt (fun _ => True) (fun g => hm_low t g ∧ δ g < δ f) c f hf trivial (fun w => absurd w.2 (Nat.lt_irrefl _)) (fun _ _ _ => trivial)
    have b := hst_le (fun _ => True) c
    show hst_n (fun g => hm_low t g ∧ δ g < δ f) c < 60
    omega
  · have d := h f g hf hg lf lg ne on
    exact @hst_lt (fun j => hm_low t j ∧ δ j < δ f) (fun j => hm_low t j ∧ δ j < δ g) c g hg ⟨lg, d⟩ (fun w => absurd w.2 (Nat.lt_irrefl _)) (fun k _ w => ⟨w.1, by omega⟩)
theorem hmt_par (t : XT) (f s k : Nat) : hm_par (sA t 4 (hq_two (t.2.2.1 4) f s)) k = if k = s then nI f else if k = f then nI s else hm_par t k := rfl
theorem hmt_low {t : XT} {f s k : Nat} (hfs : f < s) (hs : s < 60) : hm_low (sA t 4 (hq_two (t.2.2.1 4) f s)) k ↔ (k = f ∨ (k ≠ f ∧ k ≠ s ∧ hm_low t k)) := by
  unfold hm_low
  rw [hmt_par]
  by_cases a : k = s
  · rw [if_pos a, a]
    refine ⟨fun w => absurd w.2 (nI_nlt (by omega) (by omega)), fun w => ?_⟩
    rcases w with w | w
    · omega
    · exact absurd rfl w.2.1
  · rw [if_neg a]
    by_cases b : k = f
    · rw [if_pos b, b]; exact ⟨fun _ => Or.inl rfl, fun _ => ⟨hs_nI_neg (by omega), nI_lt hfs (by omega)⟩⟩
    · rw [if_neg b]; exact ⟨fun w => Or.inr ⟨b, a, w⟩, fun w => w.elim (fun w => absurd w b) (fun w => w.2.2)⟩
theorem hmt_yes {t : XT} {L : Nat → Int32} {c f s : Nat} {S : Nat → Prop} (hM : hmE t L c) (hL : hnL L c) (hMt : hm_match t c) (hA : hm_acyc t c) (hf : f < c) (hs : s < c) (hfs : f < s)
    (sb : hst_b L f s S) (sc : hst_c L (hm_par t) c S) (no : ¬ S f) : hm_acyc (sA t 4 (hq_two (t.2.2.1 4) f s)) c := by
  have hc := hL.1
  obtain ⟨δ, d1, d2⟩ := hA
  obtain ⟨δ', hδ⟩ : ∃ δ' : Nat → Nat, ∀ x, (S x → δ' x = δ x) ∧ (¬ S x → x = f → δ' x = 60) ∧ (¬ S x → x ≠ f → δ' x = 61 + δ x) :=
    ⟨fun x => @ite Nat (S x) (Classical.propDecidable _) (δ x) (if x = f then 60 else 61 + δ x), fun x => ⟨fun a => @if_pos _ (Classical.propDecidable _) a _ _ _, fun a b => (@if_neg _ (Classical.propDecidable _) a _ _ _).trans (if_pos b), fun a b => (@if_neg _ (Classical.propDecidable _) a _ _ _).trans (if_neg b)⟩⟩
  refine hm_acyc_of hc δ' (fun x g hx hg lx lg ne on => ?_)
  obtain ⟨p, hp, ep, fc⟩ := on
  rw [hmt_low hfs (by omega)] at lx lg
  rw [hmt_par] at ep
  have fc : hm_face t g p := fc
  rcases lx with lx | ⟨xf, xs, lx⟩
  · subst lx
    rw [if_neg (show ¬ x = s by omega), if_pos rfl] at ep
    have : s = p := (nI_eq (by omega) (by omega)).mp ep
    subst this
    have Sg := sb g ((hf_face hM hL hg hs).mp fc) ne
    rw [(hδ g).1 Sg, (hδ x).2.1 no rfl]
    rcases lg with w | w
    · exact absurd w ne
    · exact d1 g hg w.2.2
  · rw [if_neg xs, if_neg xf] at ep
    have hpc : p < c := by
      rcases hMt x hx with q | ⟨p', hp', e', _⟩
      · exact absurd (ep.symm.trans q) (hs_nI_neg (by omega))
      · have := (nI_eq (by omega) (by omega)).mp (ep.symm.trans e')
        omega
    have fF := (hf_face hM hL hg hpc).mp fc
    have old : hm_low t g → δ g < δ x := fun w => d2 x g hx hg lx w ne ⟨p, hp, ep, fc⟩
    by_cases Sx : S x
    · have Sg := sc x p g hx Sx lx hpc ep fF
      rw [(hδ g).1 Sg, (hδ x).1 Sx]
      rcases lg with w | w
      · rw [w] at Sg; exact absurd Sg no
      · exact old w.2.2
    · rw [(hδ x).2.2 Sx xf]
      by_cases Sg : S g
      · rw [(hδ g).1 Sg]
        rcases lg with w | w
        · rw [w] at Sg; exact absurd Sg no
        · have := d1 g hg w.2.2
          omega
      · by_cases gf : g = f
        · rw [(hδ g).2.1 Sg gf]; omega
        · rw [(hδ g).2.2 Sg gf]
          rcases lg with w | w
          · exact absurd w gf
          · have := old w.2.2
            omega
theorem hmt_no {t : XT} {L : Nat → Int32} {c f s : Nat} {S : Nat → Prop} (hM : hmE t L c) (hL : hnL L c) (hf : f < c) (hs : s < c) (hfs : f < s) (ef : hm_par t f = -1) (es : hm_par t s = -1)
    (least : ∀ T, hst_b L f s T → hst_c L (hm_par t) c T → ∀ g, S g → T g) (yes : S f) : ¬ hm_acyc (sA t 4 (hq_two (t.2.2.1 4) f s)) c := by
  have hc := hL.1
  intro hA
  obtain ⟨δ, d1, d2⟩ := hA
  have lf : hm_low (sA t 4 (hq_two (t.2.2.1 4) f s)) f := (hmt_low hfs (by omega)).mpr (Or.inl rfl)
  have T := least (fun x => x < c → hm_low (sA t 4 (hq_two (t.2.2.1 4) f s)) x → δ x < δ f) (fun g y ne hg lg => ?_) (fun x p g hx a b hp e y hg lg => ?_) f yes
  · exact absurd (T hf lf) (Nat.lt_irrefl _)
  · refine d2 f g hf hg lf lg ne ⟨s, by omega, ?_, (hf_face hM hL hg hs).mpr y⟩
    rw [hmt_par, if_neg (by omega), if_pos rfl]
  · have xf : x ≠ f := fun q => b.1 (by rw [q]; exact ef)
    have xs : x ≠ s := fun q => b.1 (by rw [q]; exact es)
    have lx : hm_low (sA t 4 (hq_two (t.2.2.1 4) f s)) x := (hmt_low hfs (by omega)).mpr (Or.inr ⟨xf, xs, b⟩)
    have dx := a hx lx
    by_cases gx : g = x
    · rw [gx]; exact dx
    · refine Nat.lt_trans (d2 x g hx hg lx lg gx ⟨p, by omega, ?_, (hf_face hM hL hg hp).mpr y⟩) dx
      rw [hmt_par, if_neg xs, if_neg xf]; exact e
/-- the class's answer is the reference's test -/
theorem hst_acyc {tx tm : XT} {L : Nat → Int32} {c f s K : Nat} {Q : Int32 → XT → Prop} (hE : hcE tx L c) (hP : hPJ tx tm c) (hM : hmE tm L c) (hL : hnL L c) (hMt : hm_match tm c) (hA : hm_acyc tm c) (hf : f < c) (hs : s < c) (hfs : f < s) (ef : hm_par tm f = -1) (es : hm_par tm s = -1) (hK : 200 ≤ K)
    (h1 : hm_acyc (sA tm 4 (hq_two (tm.2.2.1 4) f s)) c → Q 1 tx) (h0 : ¬ hm_acyc (sA tm 4 (hq_two (tm.2.2.1 4) f s)) c → Q 0 tx) : wqX6_staysAcyclic K tx (nI f) (nI s) Q :=
  hst hE hP (hpM_of hMt) hL.1 hf hs hK (fun _ sb sc _ no => h1 (hmt_yes hM hL hMt hA hf hs hfs sb sc no)) (fun _ _ _ least yes => h0 (hmt_no hM hL hf hs hfs ef es least yes))
