/-! ===== the TAPE's bytes: what feed lays, exactly, on both sides ===== -/
def hbx (a v : Int32) : Int32 := (a.toUInt32 >>> (v.toUInt32 &&& Int32.toUInt32 31)).toInt32 &&& 255
def hbm (a v : Int32) : Int32 := vp_nar .byte ((a >>> (v &&& 31)).toInt8.toInt32)
theorem hby_255 : ∀ i : Nat, i < 32 → (255#32).getLsbD i = decide (i < 8) := by decide
theorem hby_bv (x : BitVec 32) (n : Nat) (hn : n ≤ 24) : ((x.sshiftRight n).signExtend 8).signExtend 32 &&& 255#32 = (x >>> n) &&& 255#32 := by
  apply BitVec.eq_of_getLsbD_eq
  intro i hi
  rw [BitVec.getLsbD_and, BitVec.getLsbD_and, hby_255 i hi]
  by_cases c : i < 8
  · rw [BitVec.getLsbD_signExtend, BitVec.getLsbD_ushiftRight, if_pos c, BitVec.getLsbD_signExtend, if_pos hi, BitVec.getLsbD_sshiftRight, if_pos (by omega)]
    have e1 : decide (32 ≤ i) = false := decide_eq_false (by omega)
    have e2 : decide (i < 32) = true := decide_eq_true hi
    have e3 : decide (i < 8) = true := decide_eq_true c
    rw [e1, e2, e3]
    simp
  · have e3 : decide (i < 8) = false := decide_eq_false c
    rw [e3, Bool.and_false, Bool.and_false]
theorem hby_nar (x : Int32) : vp_nar .byte x.toInt8.toInt32 = x.toInt8.toInt32.toInt8.toInt32 := rfl
theorem hby_eq (a v : Int32) (n : Nat) (hn : n ≤ 24) (h1 : (a >>> (v &&& 31)).toBitVec = a.toBitVec.sshiftRight n) (h2 : (a.toUInt32 >>> (v.toUInt32 &&& Int32.toUInt32 31)).toBitVec = a.toBitVec >>> n) : hbm a v &&& 255 = hbx a v := by
  unfold hbm hbx
  rw [hby_nar]
  have e : ∀ x : Int32, x.toInt8.toInt32.toInt8 = x.toInt8 := fun x => by simp
  rw [e]
  apply Int32.toBitVec_inj.mp
  rw [Int32.toBitVec_and, Int32.toBitVec_and, Int8.toBitVec_toInt32, Int32.toBitVec_toInt8, UInt32.toBitVec_toInt32, h1, h2]
  rw [show (255 : Int32).toBitVec = 255#32 from by decide]
  exact hby_bv a.toBitVec n hn
theorem hby_24 (a : Int32) : hbm a 24 &&& 255 = hbx a 24 := hby_eq a 24 24 (by decide) rfl rfl
theorem hby_16 (a : Int32) : hbm a 16 &&& 255 = hbx a 16 := hby_eq a 16 16 (by decide) rfl rfl
theorem hby_8 (a : Int32) : hbm a 8 &&& 255 = hbx a 8 := hby_eq a 8 8 (by decide) rfl rfl
theorem hby_0 (a : Int32) : hbm a 0 &&& 255 = hbx a 0 := hby_eq a 0 0 (by decide) rfl rfl
def hlx (F : Nat → Int32) (z : Nat) (a : Int32) : Nat → Int32 := upd (upd (upd (upd F z (hbx a 24)) (z + 1) (hbx a 16)) (z + 1 + 1) (hbx a 8)) (z + 1 + 1 + 1) (hbx a 0)
def hlm (F : Nat → Int32) (z : Nat) (a : Int32) : Nat → Int32 := upd (upd (upd (upd F z (hbm a 24)) (z + 1) (hbm a 16)) (z + 1 + 1) (hbm a 8)) (z + 1 + 1 + 1) (hbm a 0)
theorem hl_same {F G : Nat → Int32} {z : Nat} (a : Int32) (h : ∀ i, i < z → F i = G i &&& 255) : ∀ i, i < z + 4 → hlx F z a i = hlm G z a i &&& 255 := by
  intro i hi
  unfold hlx hlm
  simp only [hm_upd_at]
  by_cases c3 : i = z + 1 + 1 + 1
  · rw [if_pos c3, if_pos c3, hby_0]
  · rw [if_neg c3, if_neg c3]
    by_cases c2 : i = z + 1 + 1
    · rw [if_pos c2, if_pos c2, hby_8]
    · rw [if_neg c2, if_neg c2]
      by_cases c1 : i = z + 1
      · rw [if_pos c1, if_pos c1, hby_16]
      · rw [if_neg c1, if_neg c1]
        by_cases c0 : i = z
        · rw [if_pos c0, if_pos c0, hby_24]
        · rw [if_neg c0, if_neg c0]
          exact h i (by omega)
theorem hbx_app1 {t : XT} {z K : Nat} {a v w : Int32} {li : Nat → Int32} {lj : Nat → Int64} {Q : XT → Prop} (a1 : t.1 1 = nI z) (hz : z < 160) (hv : ¬ v < 0) (ea : li 1 = a) (e2 : li 2 = v) (hw : v + Int32.ofInt (-8) = w)
    (h : ∀ t' li', t'.1 1 = nI (z + 1) → t'.2.2.1 0 = upd (t.2.2.1 0) z (hbx a v) → li' 1 = a → li' 2 = w → wpX10_append K 1 t' li' lj Q) : wpX10_append (K + 1) 1 t li lj Q := by
  show wbX10_append_1 (wpX10_append K) K t li lj Q
  refine ⟨fun x => absurd (by rw [← e2]; exact x) hv, fun _ => ⟨fun x => absurd (show nI 160 ≤ nI z by rw [← a1]; exact x) (nI_ge (by omega) (by omega)), fun _ v3 e3 v4 e4 => ⟨by rw [a1]; exact vp_in_nI hz (by decide), fun t5 e5 v6 e6 t7 e7 v8 e8 => ?_⟩⟩⟩
  have f6 : v6 = nI (z + 1) := by rw [e6, e5]; exact (congrArg (· + 1) a1).trans (nI_1 z)
  refine h t7 _ ?_ ?_ ea (by show v8 = _; rw [e8, e2]; exact hw)
  · subst e7; exact f6
  · subst e7 e5
    show upd (t.2.2.1 0) (t.1 1).toNatClampNeg v4 = _
    rw [a1, nI_clamp (by omega), e4, e3, ea, e2]
    rfl
theorem hbx_append {t : XT} {z K : Nat} {a : Int32} {Q : XT → Prop} (a1 : t.1 1 = nI z) (hz : z + 4 ≤ 160) (hK : 6 ≤ K) (hQ : ∀ t', t'.1 1 = nI (z + 4) → t'.2.2.1 0 = hlx (t.2.2.1 0) z a → Q t') : wqX10_append K t a Q := by
  obtain ⟨K, rfl⟩ : ∃ K', K = K' + 6 := ⟨K - 6, by omega⟩
  show wpX10_append (K + 5) 1 t (uI (uI (fun _ => 0) 1 a) 2 24) (fun _ => 0) Q
  refine hbx_app1 (a := a) (v := 24) (w := 16) a1 (by omega) (by decide) rfl rfl (by decide) (fun t1 l1 h1 g1 d1 e1 => ?_)
  refine hbx_app1 (a := a) (v := 16) (w := 8) h1 (by omega) (by decide) d1 e1 (by decide) (fun t2 l2 h2 g2 d2 e2 => ?_)
  refine hbx_app1 (a := a) (v := 8) (w := 0) h2 (by omega) (by decide) d2 e2 (by decide) (fun t3 l3 h3 g3 d3 e3 => ?_)
  refine hbx_app1 (a := a) (v := 0) (w := -8) h3 (by omega) (by decide) d3 e3 (by decide) (fun t4 l4 h4 g4 d4 e4 => ?_)
  show wbX10_append_1 (wpX10_append K) K t4 l4 (fun _ => 0) Q
  exact ⟨fun _ => hQ t4 h4 (by rw [g4, g3, g2, g1]; rfl), fun x => absurd (by rw [e4]; decide) x⟩
theorem hbx_feed {t : XT} {z K : Nat} {a b c d e : Int32} {Q : Int32 → XT → Prop} (a1 : t.1 1 = nI z) (hz : z ≤ 160) (hK : 10 ≤ K) (h1 : z + 20 ≤ 160 → ∀ t', t'.2.2.1 0 = hlx (hlx (hlx (hlx (hlx (t.2.2.1 0) z a) (z + 4) b) (z + 4 + 4) c) (z + 4 + 4 + 4) d) (z + 4 + 4 + 4 + 4) e → Q (nI (z + 20)) t') (h0 : ¬ z + 20 ≤ 160 → Q (-1) t) : wqX11_feed K t a b c d e Q := by
  obtain ⟨K, rfl⟩ : ∃ K', K = K' + 1 := ⟨K - 1, by omega⟩
  show wbX11_feed_0 (wpX11_feed K) K t (uI (uI (uI (uI (uI (fun _ => 0) 1 a) 2 b) 3 c) 4 d) 5 e) (fun _ => 0) Q
  intro v1 e1
  have e1 : v1 = nI (z + 20) := by rw [e1, a1]; exact nI_add z 20
  rw [e1]
  refine ⟨fun x => ?_, fun x => h0 (fun le => x (show nI (z + 20) ≤ nI 160 from nI_le le (by omega)))⟩
  have x : nI (z + 20) ≤ nI 160 := x
  have x := Int32.le_iff_toInt_le.mp x
  rw [nI_toInt (by omega), nI_toInt (by omega)] at x
  have le : z + 20 ≤ 160 := by omega
  refine hbx_append a1 (by omega) (by omega) (fun t1 i1 g1 => hbx_append i1 (by omega) (by omega) (fun t2 i2 g2 => hbx_append i2 (by omega) (by omega) (fun t3 i3 g3 => hbx_append i3 (by omega) (by omega) (fun t4 i4 g4 => hbx_append i4 (by omega) (by omega) (fun t5 i5 g5 => ?_)))))
  rw [i5]
  exact h1 le t5 (by rw [g5, g4, g3, g2, g1]; rfl)
theorem hbm_put1 {t : XT} {y K : Nat} {a v : Int32} {li : Nat → Int32} {lj : Nat → Int64} {G : Nat → Int32} {Q : XT → Prop} (hy : y < 160) (hv : ¬ v < 0) (ea : li 1 = a) (e2 : li 2 = v)
    (cont : ∀ (li' : Nat → Int32), li' 1 = a → li' 2 = v + Int32.ofInt (-8) → wpX12_puts K 1 (sI (sA t 0 (upd G y (hbm a v))) 0 (nI (y + 1))) li' lj Q) : wpX12_puts (K + 1) 1 (sI (sA t 0 G) 0 (nI y)) li lj Q := by
  show wbX12_puts_1 (wpX12_puts K) K (sI (sA t 0 G) 0 (nI y)) li lj Q
  unfold wbX12_puts_1
  rw [e2, ea]
  refine ⟨fun x => absurd x hv, fun _ v2 e2 v3 e3 => ⟨vp_in_nI (n := y) hy (by decide), fun t4 e4 v5 e5 t6 e6 v7 e7 => ?_⟩⟩
  subst e4
  have e5 : v5 = nI (y + 1) := e5.trans (nI_1 y)
  subst e5
  have e6' : t6 = sI (sA t 0 (upd G y (hbm a v))) 0 (nI (y + 1)) := by
    rw [e6]
    refine (hq_fold0 t G _ (nI y) (nI (y + 1))).trans ?_
    show sI (sA t 0 (upd G (nI y).toNatClampNeg (vp_nar .byte v3))) 0 (nI (y + 1)) = _
    rw [nI_clamp (by omega), e3, e2]
    rfl
  rw [e6']
  exact cont _ ea e7
theorem hbm_puts {t : XT} {z K : Nat} {a : Int32} {Q : XT → Prop} (hz : t.1 0 = nI z) (hz4 : z + 4 ≤ 160) (hK : 8 ≤ K) (hQ : Q (sI (sA t 0 (hlm (t.2.2.1 0) z a)) 0 (nI (z + 4)))) : wqX12_puts K t a Q := by
  obtain ⟨K, rfl⟩ : ∃ K', K = K' + 6 := ⟨K - 6, by omega⟩
  have st : sI (sA t 0 (t.2.2.1 0)) 0 (nI z) = t := by
    rw [hm_sA0, ← hz]
    unfold sI uI
    refine Prod.ext ?_ rfl
    funext j
    show cond (Nat.beq j 0) (t.1 0) (t.1 j) = t.1 j
    cases h : Nat.beq j 0 with
    | true => rw [Nat.eq_of_beq_eq_true h]; rfl
    | false => rfl
  show wpX12_puts (K + 5) 1 t (uI (uI (fun _ => 0) 1 a) 2 24) (fun _ => 0) Q
  have go : wpX12_puts (K + 5) 1 (sI (sA t 0 (t.2.2.1 0)) 0 (nI z)) (uI (uI (fun _ => 0) 1 a) 2 24) (fun _ => 0) Q := by
    refine hbm_put1 (a := a) (v := 24) (by omega) (by decide) rfl rfl (fun l1 d1 a1 => ?_)
    refine hbm_put1 (a := a) (v := 16) (by omega) (by decide) d1 (a1.trans (by decide)) (fun l2 d2 a2 => ?_)
    refine hbm_put1 (a := a) (v := 8) (by omega) (by decide) d2 (a2.trans (by decide)) (fun l3 d3 a3 => ?_)
    refine hbm_put1 (a := a) (v := 0) (by omega) (by decide) d3 (a3.trans (by decide)) (fun l4 d4 a4 => ?_)
    show wbX12_puts_1 (wpX12_puts K) K (sI (sA t 0 (hlm (t.2.2.1 0) z a)) 0 (nI (z + 4))) l4 (fun _ => 0) Q
    exact ⟨fun _ => hQ, fun x => absurd (by rw [a4]; decide) x⟩
  rw [st] at go
  exact go
theorem hbm_feed {t : XT} {z K : Nat} {a b c d e : Int32} {Q : Int32 → XT → Prop} (hz : t.1 0 = nI z) (hz160 : z ≤ 160) (hK : 20 ≤ K) (h1 : z + 20 ≤ 160 → Q (nI (z + 20)) (sI (sA t 0 (hlm (hlm (hlm (hlm (hlm (t.2.2.1 0) z a) (z + 4) b) (z + 4 + 4) c) (z + 4 + 4 + 4) d) (z + 4 + 4 + 4 + 4) e)) 0 (nI (z + 20)))) (h0 : ¬ z + 20 ≤ 160 → Q (-1) t) : wqX12_feed K t a b c d e Q := by
  obtain ⟨K, rfl⟩ : ∃ K', K = K' + 1 := ⟨K - 1, by omega⟩
  show wbX12_feed_0 (wpX12_feed K) K t (uI (uI (uI (uI (uI (fun _ => 0) 1 a) 2 b) 3 c) 4 d) 5 e) (fun _ => 0) Q
  intro v1 e1
  have e1 : v1 = nI (z + 20) := by
    rw [e1, hz]
    exact nI_add z 20
  subst e1
  refine ⟨fun x => ?_, fun x => h0 (fun y => x (nI_le (b := 160) y (by omega)))⟩
  have h20 : z + 20 ≤ 160 := (nI_leI (b := 160) (by omega) (by omega)).mp x
  refine hbm_puts hz (by omega) (by omega) ?_
  obtain ⟨G1, hG1⟩ : ∃ G1, G1 = hlm (t.2.2.1 0) z a := ⟨_, rfl⟩
  show wqX12_puts K (sI (sA t 0 (hlm (t.2.2.1 0) z a)) 0 (nI (z + 4))) _ _
  rw [← hG1]
  refine hbm_puts (t := sI (sA t 0 G1) 0 (nI (z + 4))) (z := z + 4) rfl (by omega) (by omega) ?_
  rw [hq_fold0]
  obtain ⟨G2, hG2⟩ : ∃ G2, G2 = hlm G1 (z + 4) b := ⟨_, rfl⟩
  show wqX12_puts K (sI (sA t 0 (hlm G1 (z + 4) b)) 0 (nI (z + 4 + 4))) _ _
  rw [← hG2]
  refine hbm_puts (t := sI (sA t 0 G2) 0 (nI (z + 4 + 4))) (z := z + 4 + 4) rfl (by omega) (by omega) ?_
  rw [hq_fold0]
  obtain ⟨G3, hG3⟩ : ∃ G3, G3 = hlm G2 (z + 4 + 4) c := ⟨_, rfl⟩
  show wqX12_puts K (sI (sA t 0 (hlm G2 (z + 4 + 4) c)) 0 (nI (z + 4 + 4 + 4))) _ _
  rw [← hG3]
  refine hbm_puts (t := sI (sA t 0 G3) 0 (nI (z + 4 + 4 + 4))) (z := z + 4 + 4 + 4) rfl (by omega) (by omega) ?_
  rw [hq_fold0]
  obtain ⟨G4, hG4⟩ : ∃ G4, G4 = hlm G3 (z + 4 + 4 + 4) d := ⟨_, rfl⟩
  show wqX12_puts K (sI (sA t 0 (hlm G3 (z + 4 + 4 + 4) d)) 0 (nI (z + 4 + 4 + 4 + 4))) _ _
  rw [← hG4]
  refine hbm_puts (t := sI (sA t 0 G4) 0 (nI (z + 4 + 4 + 4 + 4))) (z := z + 4 + 4 + 4 + 4) rfl (by omega) (by omega) ?_
  rw [hq_fold0]
  have := h1 h20
  rw [← hG1, ← hG2, ← hG3, ← hG4] at this
  exact this
theorem hby_feeds {F G : Nat → Int32} {z : Nat} (a b c d e : Int32) (h : ∀ i, i < z → F i = G i &&& 255) : ∀ i, i < z + 20 → hlx (hlx (hlx (hlx (hlx F z a) (z + 4) b) (z + 4 + 4) c) (z + 4 + 4 + 4) d) (z + 4 + 4 + 4 + 4) e i = hlm (hlm (hlm (hlm (hlm G z a) (z + 4) b) (z + 4 + 4) c) (z + 4 + 4 + 4) d) (z + 4 + 4 + 4 + 4) e i &&& 255 :=
  hl_same e (hl_same d (hl_same c (hl_same b (hl_same a h))))
