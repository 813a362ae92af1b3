/-! ===== cancel: frames; what is turned about, on both sides ===== -/
theorem hsv4w {k : Nat} {t : XT} {Q : XT → Prop} (hR : wqX3_save_c4 k t Q) : wqX3_save_c4 k t (fun t' => Q t' ∧ t'.2.2.2 4 = t.2.2.2 4) := by
  cases k with
  | zero => exact False.elim hR
  | succ k =>
    have hR : wbX3_save_c4_0 (wpX3_save_c4 k) k t (fun _ => 0) (fun _ => 0) Q := hR
    show wbX3_save_c4_0 (wpX3_save_c4 k) k t (fun _ => 0) (fun _ => 0) _
    intro v1 e1
    obtain ⟨g1, g2, g3, g4, g5, hR⟩ := hR v1 e1
    refine ⟨g1, g2, g3, g4, g5, fun t2 e2 => ?_⟩
    obtain ⟨g6, hR⟩ := hR t2 e2
    refine ⟨g6, fun t3 e3 v4 e4 => ?_⟩
    obtain ⟨g7, hR⟩ := hR t3 e3 v4 e4
    refine ⟨g7, fun v5 e5 t6 e6 v7 e7 v8 e8 t9 e9 => ⟨hR v5 e5 t6 e6 v7 e7 v8 e8 t9 e9, ?_⟩⟩
    rw [e9, e6, e3, e2]; rfl
theorem hun_8 {k : Nat} {t : XT} {a1 a2 : Int32} {Q : XT → Prop} (hR : wqX6_unite k t a1 a2 Q) : wqX6_unite k t a1 a2 (fun t' => Q t' ∧ t'.2.2.1 8 = t.2.2.1 8) := by
  cases k with
  | zero => exact False.elim hR
  | succ k =>
    have hR : wbX6_unite_0 (wpX6_unite k) k t (uI (uI (fun _ => 0) 1 a1) 2 a2) (fun _ => 0) Q := hR
    show wbX6_unite_0 (wpX6_unite k) k t (uI (uI (fun _ => 0) 1 a1) 2 a2) (fun _ => 0) _
    obtain ⟨i1, hR⟩ := hR
    refine ⟨i1, fun t1 e1 => ?_⟩
    obtain ⟨i2, hR⟩ := hR t1 e1
    refine ⟨i2, fun t2 e2 => ?_⟩
    refine wmX11_bit (Nat.le_refl k) (fun r3 hR v4 e4 t5 e5 => ?_) (hR t2 e2)
    refine wmX11_bit (Nat.le_refl k) (fun r6 hR v7 e7 t8 e8 v9 e9 t10 e10 => ⟨hR v7 e7 t8 e8 v9 e9 t10 e10, ?_⟩) (hR v4 e4 t5 e5)
    rw [e10, e8, e5, e2, e1]; rfl
theorem hdv_8 {k : Nat} {t : XT} {a1 : Int32} {Q : XT → Prop} (hR : wqX6_divide k t a1 Q) : wqX6_divide k t a1 (fun t' => Q t' ∧ t'.2.2.1 8 = t.2.2.1 8) := by
  cases k with
  | zero => exact False.elim hR
  | succ k =>
    have hR : wbX6_divide_0 (wpX6_divide k) k t (uI (fun _ => 0) 1 a1) (fun _ => 0) Q := hR
    show wbX6_divide_0 (wpX6_divide k) k t (uI (fun _ => 0) 1 a1) (fun _ => 0) _
    obtain ⟨i1, hR⟩ := hR
    refine ⟨i1, fun v1 e1 => ⟨fun ne => ?_, fun z => ⟨(hR v1 e1).2 z, rfl⟩⟩⟩
    obtain ⟨i2, hR⟩ := (hR v1 e1).1 ne
    refine ⟨i2, fun t3 e3 => ?_⟩
    obtain ⟨i3, hR⟩ := hR t3 e3
    refine ⟨i3, fun t4 e4 => ?_⟩
    refine wmX11_bit (Nat.le_refl k) (fun r5 hR => ?_) (hR t4 e4)
    refine wmX11_bit (Nat.le_refl k) (fun r6 hR v7 e7 v8 e8 v9 e9 t10 e10 v11 e11 t12 e12 v13 e13 t14 e14 => ⟨hR v7 e7 v8 e8 v9 e9 t10 e10 v11 e11 t12 e12 v13 e13 t14 e14, ?_⟩) hR
    rw [e14, e12, e10, e4, e3]; rfl
/-- no PAIRS along the list; PAIRS along the list -/
def hcl : (Nat → Int32) → List Nat → (Nat → Int32)
  | P, [] => P
  | P, a :: r => hcl (upd P a (-1)) r
def htn : (Nat → Int32) → List Nat → (Nat → Int32)
  | P, a :: b :: r => htn (hq_two P b a) r
  | P, _ => P
def hdv : (Nat → Int32) → List Nat → (Nat → Int32)
  | P, f :: _ :: r => hdv (hq_free P f) r
  | P, _ => P
theorem hq_two_sw {P : Nat → Int32} {a b : Nat} (h : a ≠ b) : upd (upd P a (nI b)) b (nI a) = hq_two P b a := by
  funext k
  show (if k = b then nI a else if k = a then nI b else P k) = (if k = a then nI b else if k = b then nI a else P k)
  by_cases x : k = a
  · rw [if_pos x, if_neg (by omega), if_pos x]
  · rw [if_neg x, if_neg x]
theorem hcl_at : ∀ (l : List Nat) (P : Nat → Int32) (x : Nat), (x ∈ l → hcl P l x = -1) ∧ (x ∉ l → hcl P l x = P x) := by
  intro l
  induction l with
  | nil => intro P x; exact ⟨fun h => absurd h List.not_mem_nil, fun _ => rfl⟩
  | cons a r ih =>
    intro P x
    have w := ih (upd P a (-1)) x
    refine ⟨fun h => ?_, fun h => ?_⟩
    · by_cases q : x ∈ r
      · exact w.1 q
      · have e : x = a := (List.mem_cons.mp h).elim id (fun z => absurd z q)
        exact (w.2 q).trans (if_pos e)
    · have nr : x ∉ r := fun z => h (List.mem_cons_of_mem a z)
      have na : x ≠ a := fun z => h (by rw [z]; exact List.mem_cons_self)
      exact (w.2 nr).trans (if_neg na)
theorem hdv_cl {tm : XT} {c e : Nat} {A : Nat → Nat} (hc : c ≤ 60) (ce : hm_par tm e = -1) : ∀ (N : Nat) (l : List Nat) (a x : Nat) (P : Nat → Int32), l.length ≤ N → hpt tm c e A l a x → (a :: l).Nodup → (∀ y, y ∈ l → P y = hm_par tm y) → P a = -1 → hdv P l = hcl P (a :: l) := by
  intro N
  have same : ∀ (P : Nat → Int32) (a : Nat), P a = -1 → upd P a (-1) = P := by
    intro P a h
    funext k
    show (if k = a then -1 else P k) = P k
    by_cases q : k = a
    · rw [if_pos q, q, h]
    · rw [if_neg q]
  induction N with
  | zero =>
    intro l a x P hN hp
    cases l with
    | nil => exact hp.elim
    | cons f r => exact absurd hN (by show ¬ (r.length + 1 ≤ 0); omega)
  | succ N ih =>
    intro l a x P hN hp nd hP ha
    match l, hp with
    | [f], hp =>
      have ef : P f = -1 := by rw [hP f List.mem_cons_self, hp.1]; exact ce
      show P = upd (upd P a (-1)) f (-1)
      rw [same P a ha, same P f ef]
    | f :: p :: r, hp =>
      obtain ⟨q, z, h, hp', ep, lo, gp, dp, hr⟩ := hp
      have len2 : (f :: p :: r).length = r.length + 2 := rfl
      obtain ⟨n1, n2⟩ := List.nodup_cons.mp nd
      obtain ⟨n3, n4⟩ := List.nodup_cons.mp n2
      have fp : f ≠ p := fun y => n3 (by rw [y]; exact List.mem_cons_self)
      have Pf : P f = nI p := (hP f List.mem_cons_self).trans ep
      have fr : hq_free P f = upd (upd P f (-1)) p (-1) := by
        unfold hq_free
        rw [if_neg (by rw [Pf]; exact hs_nI_neg (by omega)), Pf, nI_clamp (by omega)]
        funext k
        show (if k = f then (-1 : Int32) else if k = p then -1 else P k) = (if k = p then -1 else if k = f then -1 else P k)
        by_cases y : k = f
        · rw [if_pos y]
          by_cases w : k = p
          · rw [if_pos w]
          · rw [if_neg w, if_pos y]
        · rw [if_neg y, if_neg y]
      show hdv (hq_free P f) r = hcl (upd (upd (upd P a (-1)) f (-1)) p (-1)) r
      rw [same P a ha, ← fr]
      have pp : hq_free P f p = -1 := by rw [fr]; exact if_pos rfl
      have w := ih r p z (hq_free P f) (by omega) hr n4 (fun y hy => by
        have yp : y ≠ p := fun u => (List.nodup_cons.mp n4).1 (by rw [← u]; exact hy)
        have yf : y ≠ f := fun u => n3 (by rw [← u]; exact List.mem_cons_of_mem p hy)
        rw [fr]
        show (if y = p then (-1 : Int32) else if y = f then -1 else P y) = _
        rw [if_neg yp, if_neg yf]
        exact hP y (List.mem_cons_of_mem f (List.mem_cons_of_mem p hy))) pp
      rw [w]
      show hcl (upd (hq_free P f) p (-1)) r = _
      rw [same _ p pp]
/-- along the list: each second one a FACE of the one ahead of it -/
def hcm (tm : XT) (c : Nat) : List Nat → Prop
  | [] => True
  | [_] => False
  | a :: f :: r => a < c ∧ f < c ∧ hm_face tm f a ∧ hcm tm c r
theorem hcm_of {tm : XT} {c e : Nat} {A : Nat → Nat} : ∀ (N : Nat) (l : List Nat) (a x : Nat), l.length ≤ N → hpt tm c e A l a x → a < c → hcm tm c (a :: l) := by
  intro N
  induction N with
  | zero =>
    intro l a x hN hp
    cases l with
    | nil => exact hp.elim
    | cons f r => exact absurd hN (by show ¬ (r.length + 1 ≤ 0); omega)
  | succ N ih =>
    intro l a x hN hp ha
    match l, hp with
    | [f], hp =>
      obtain ⟨_, z, h⟩ := hp
      exact ⟨ha, h.1, h.2.1.1.2.2, trivial⟩
    | f :: p :: r, hp =>
      obtain ⟨q, z, h, hp', ep, lo, gp, dp, hr⟩ := hp
      have len2 : (f :: p :: r).length = r.length + 2 := rfl
      exact ⟨ha, h.1, h.2.1.1.2.2, ih r p z (by omega) hr hp'⟩
