/-! ===== auto answers alike ===== -/
theorem hau_u {t : XT} {R : Nat → Int32} {x : Int32} {c : Nat} {L P : Nat → Int32} {f s : Nat} : hau (sI (sA t 8 R) 4 x) c L P f s = hau t c L P f s := rfl
theorem hai0_u {t : XT} {R : Nat → Int32} {x : Int32} {c f : Nat} {L : Nat → Int32} : ∀ (d s : Nat) (P : Nat → Int32), hai0 (sI (sA t 8 R) 4 x) c L f d s P = hai0 t c L f d s P := by
  intro d
  induction d with
  | zero => exact fun _ _ => rfl
  | succ d ih =>
    intro s P
    show hai0 (sI (sA t 8 R) 4 x) c L f d (s + 1) (hau (sI (sA t 8 R) 4 x) c L P f s) = hai0 t c L f d (s + 1) (hau t c L P f s)
    rw [hau_u]
    exact ih (s + 1) _
theorem hao0_u {t : XT} {R : Nat → Int32} {x : Int32} {c : Nat} {L : Nat → Int32} : ∀ (d f : Nat) (P : Nat → Int32), hao0 (sI (sA t 8 R) 4 x) c L d f P = hao0 t c L d f P := by
  intro d
  induction d with
  | zero => exact fun _ _ => rfl
  | succ d ih =>
    intro f P
    show hao0 (sI (sA t 8 R) 4 x) c L d (f + 1) (hai0 (sI (sA t 8 R) 4 x) c L f d (f + 1) P) = hao0 t c L d (f + 1) (hai0 t c L f d (f + 1) P)
    rw [hai0_u]
    exact ih (f + 1) _
theorem hai1_u {t : XT} {R : Nat → Int32} {x : Int32} {c s : Nat} {L : Nat → Int32} : ∀ (f : Nat) (P : Nat → Int32), hai1 (sI (sA t 8 R) 4 x) c L s f P = hai1 t c L s f P := by
  intro f
  induction f with
  | zero => exact fun _ => rfl
  | succ f ih =>
    intro P
    show hai1 (sI (sA t 8 R) 4 x) c L s f (hau (sI (sA t 8 R) 4 x) c L P f s) = hai1 t c L s f (hau t c L P f s)
    rw [hau_u]
    exact ih _
theorem hao1_u {t : XT} {R : Nat → Int32} {x : Int32} {c : Nat} {L : Nat → Int32} : ∀ (s : Nat) (P : Nat → Int32), hao1 (sI (sA t 8 R) 4 x) c L s P = hao1 t c L s P := by
  intro s
  induction s with
  | zero => exact fun _ => rfl
  | succ s ih =>
    intro P
    show hao1 (sI (sA t 8 R) 4 x) c L s (hai1 (sI (sA t 8 R) 4 x) c L s s P) = hao1 t c L s (hai1 t c L s s P)
    rw [hai1_u]
    exact ih _
/-- the PAIRS that auto leaves -/
noncomputable def hAu (t : XT) (c : Nat) (L : Nat → Int32) (a : Int32) : Nat → Int32 :=
  if a = 0 then hao0 t c L c 0 (hq_clr c (hm_par t)) else if a = 1 then hao1 t c L c (hq_clr c (hm_par t)) else hpe L c 60 (fun k => ¬ hm_gone t k ≠ 0) (hq_clr c (hm_par t))
theorem hq_clr2 (c : Nat) (p : Nat → Int32) : hq_clr c (hq_clr c p) = hq_clr c p := by
  funext j
  show (if j < c then (-1 : Int32) else if j < c then -1 else p j) = if j < c then -1 else p j
  by_cases x : j < c
  · rw [if_pos x, if_pos x]
  · rw [if_neg x, if_neg x]
theorem hAu_0 {t : XT} {R : Nat → Int32} {x a : Int32} {c : Nat} {L : Nat → Int32} (h : a = 0) : hao0 (sI (sA t 8 R) 4 x) c L c 0 (hq_clr c (hm_par t)) = hAu t c L a := by
  rw [hao0_u]
  unfold hAu
  rw [if_pos h]
theorem hAu_1 {t : XT} {R : Nat → Int32} {x a : Int32} {c : Nat} {L : Nat → Int32} (h0 : ¬ a = 0) (h : a = 1) : hao1 (sI (sA t 8 R) 4 x) c L c (hq_clr c (hm_par t)) = hAu t c L a := by
  rw [hao1_u]
  unfold hAu
  rw [if_neg h0, if_pos h]
theorem hAu_2 {t : XT} {a : Int32} {c : Nat} {L : Nat → Int32} (h0 : ¬ a = 0) (h : ¬ a = 1) : hpe L c 60 (fun k => ¬ hm_gone t k ≠ 0) (hq_clr c (hq_clr c (hm_par t))) = hAu t c L a := by
  rw [hq_clr2]
  unfold hAu
  rw [if_neg h0, if_neg h]
theorem hmx_autoX0 {u : XT} {L P X : Nat → Int32} {c K : Nat} {Q : XT → Prop} (hM : hmE u L c) (hL : hnL L c) (hg : hag u c P) (hK : 60000 ≤ K) (hX : hao0 u c L c 0 P = X) (hQ : ∀ F', Q (hsv u X F')) : wqX12_auto0 K (sA u 4 P) Q := by
  subst hX
  have st : sA u 4 P = hsv u P ((sA u 4 P).2.2.1 7) := (hm_sA0 _ 7).symm
  rw [st]
  exact hmx_auto0 hM hL hg hK (fun F' _ => hQ F')
theorem hmx_autoX1 {u : XT} {L P X : Nat → Int32} {c K : Nat} {Q : XT → Prop} (hM : hmE u L c) (hL : hnL L c) (hg : hag u c P) (hK : 60000 ≤ K) (hX : hao1 u c L c P = X) (hQ : ∀ F', Q (hsv u X F')) : wqX12_auto1 K (sA u 4 P) Q := by
  subst hX
  have st : sA u 4 P = hsv u P ((sA u 4 P).2.2.1 7) := (hm_sA0 _ 7).symm
  rw [st]
  exact hmx_auto1 hM hL hg hK (fun F' _ => hQ F')
theorem hmx_autoX2 {u : XT} {L P X G : Nat → Int32} {c K : Nat} {Q : XT → Prop} (hM : hmE u L c) (hL : hnL L c) (hK : 20000 ≤ K) (hG : hm_gone u = G) (hX : hpe L c 60 (fun k => ¬ G k ≠ 0) (hq_clr c P) = X) (hQ : ∀ o, Q (hso u X o)) : wqX12_auto2 K (sA u 4 P) Q := by
  subst hG
  subst hX
  exact hmx_auto2 hM hL hK hQ
