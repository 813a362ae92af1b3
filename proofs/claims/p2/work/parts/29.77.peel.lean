/-! ===== what is OPEN of the class, exactly: begin, close, above ===== -/
theorem hst_del {p : Nat → Prop} {c s : Nat} (hs : s < c) (hp : p s) : hst_n p c = hst_n (fun k => p k ∧ k ≠ s) c + 1 := by
  refine hq_sum_bump (g := fun k => hq_sel (p k ∧ k ≠ s) 1) (g' := fun k => hq_sel (p k) 1) c hs ?_ (fun j hj ne => ?_)
  · show hq_sel (p s) 1 = hq_sel (p s ∧ s ≠ s) 1 + 1
    rw [hq_sel1 hp, hq_sel0 (fun w => w.2 rfl)]
  · show hq_sel (p j) 1 = hq_sel (p j ∧ j ≠ s) 1
    by_cases z : p j
    · rw [hq_sel1 z, hq_sel1 ⟨z, ne⟩]
    · rw [hq_sel0 z, hq_sel0 (fun w => z w.1)]
theorem hst_none {p : Nat → Prop} {c : Nat} (h : ∀ k, k < c → ¬ p k) : hst_n p c = 0 := by
  have e : hst_n p c = hm_sum (fun _ => 0) c := hq_sum_eq c (fun j hj => hq_sel0 (h j hj))
  rw [e, hq_sum0]
theorem hst_1 {p : Nat → Prop} {c : Nat} : hst_n p c = 1 ↔ ∃ s, s < c ∧ p s ∧ ∀ r, r < c → p r → r = s := by
  refine ⟨fun h => ?_, fun ⟨s, hs, ps, u⟩ => ?_⟩
  · by_cases z : ∃ s, s < c ∧ p s
    · obtain ⟨s, hs, ps⟩ := z
      rw [hst_del hs ps] at h
      have n := hst_0 (p := fun k => p k ∧ k ≠ s) (c := c) (by omega)
      exact ⟨s, hs, ps, fun r hr pr => Classical.byContradiction (fun ne => n r hr ⟨pr, ne⟩)⟩
    · rw [hst_none (fun k hk pk => z ⟨k, hk, pk⟩)] at h
      exact absurd h (by decide)
  · rw [hst_del hs ps, hst_none (fun k hk w => w.2 (u k hk w.1))]
/-- k is a FACE of just one open one, s -/
def hpo (L : Nat → Int32) (c : Nat) (O : Nat → Prop) (k s : Nat) : Prop := s < c ∧ O s ∧ hnF L s k ∧ ∀ r, r < c → O r → hnF L r k → r = s
/-- OPEN and SINGLE of the class -/
def hpO (t : XT) (L : Nat → Int32) (c : Nat) (O : Nat → Prop) : Prop := (∀ k, hb (t.2.1 3) k = true ↔ (k < c ∧ O k)) ∧ ∀ k, hb (t.2.1 4) k = true ↔ (k < c ∧ O k ∧ ∃ s, hpo L c O k s)
/-- what peeling leaves -/
def hpN (t : XT) : ((Int32 × Int32 × Int32 × Int64) × ((Nat → Int32) × (Nat → Int32) × (Nat → Int32) × (Nat → Int32) × (Nat → Int32)) × ((Nat → Int64) × (Nat → Int64) × (Nat → Int64) × (Nat → Int64))) × (Int64 × Int64 × Int64 × (Nat → Int32)) := (hpK t, (t.2.1 0, t.2.1 1, t.2.1 2, t.2.2.1 5))
theorem hpX_N {t t' : XT} {c : Nat} {P : Nat → Int32} {G : Nat → Prop} (h : hpN t' = hpN t) (hX : hpX t c P G) : hpX t' c P G := by
  have a0 : t'.2.1 0 = t.2.1 0 := congrArg (fun q => q.2.1) h
  have a1 : t'.2.1 1 = t.2.1 1 := congrArg (fun q => q.2.2.1) h
  have a2 : t'.2.1 2 = t.2.1 2 := congrArg (fun q => q.2.2.2.1) h
  have b5 : t'.2.2.1 5 = t.2.2.1 5 := congrArg (fun q => q.2.2.2.2) h
  unfold hpX
  rw [a0, a1, a2, b5]
  exact hX
theorem hb_cut {v r : Int64} {j : Nat} (h : un r = 2 ^ j) (k : Nat) : hb (v &&& (r ^^^ (-1))) k = true ↔ (hb v k = true ∧ k ≠ j) := by
  by_cases k64 : k < 64
  · rw [hb_and, hb_not _ k64, hb_one h, Bool.and_eq_true, Bool.not_eq_true']
    refine and_congr_right (fun _ => ⟨fun w q => ?_, fun w => decide_eq_false (fun q => w q.symm)⟩)
    rw [q, decide_eq_true rfl] at w
    exact absurd w (by decide)
  · rw [hb_big (by omega), hb_big (by omega)]
    exact ⟨fun w => absurd w (by decide), fun w => absurd w.1 (by decide)⟩
theorem hb_put {v r : Int64} {j : Nat} (h : un r = 2 ^ j) (k : Nat) : hb (v ||| r) k = true ↔ (hb v k = true ∨ k = j) := by
  rw [hb_or, hb_one h, Bool.or_eq_true]
  exact or_congr Iff.rfl ⟨fun w => (of_decide_eq_true w).symm, fun w => decide_eq_true w.symm⟩
theorem hb_rest {v : Int64} {j : Nat} (hj : hb v j = true) (hl : ∀ i, i < j → hb v i = false) (k : Nat) : hb (v &&& (v - 1)) k = true ↔ (hb v k = true ∧ k ≠ j) := by
  rw [hf_rest hj hl k, Bool.and_eq_true, Bool.not_eq_true']
  exact and_congr_right (fun _ => ⟨fun w q => absurd (decide_eq_true q) (by rw [w]; decide), fun w => decide_eq_false w⟩)
theorem hpo_cnt {L : Nat → Int32} {c k : Nat} {O : Nat → Prop} {v : Int64} (hc : c ≤ 60) (hv : ∀ s, hb v s = true ↔ (s < c ∧ (hnF L s k ∧ O s))) : nI (nb 64 (un v)) = 1 ↔ ∃ s, hpo L c O k s := by
  rw [hct hv (by omega), hct_n]
  have l := hst_le (fun s => hnF L s k ∧ O s) c
  have e : nI (hst_n (fun s => hnF L s k ∧ O s) c) = 1 ↔ hst_n (fun s => hnF L s k ∧ O s) c = 1 := ⟨fun w => (nI_eq (b := 1) (by omega) (by omega)).mp w, fun w => by rw [w]; rfl⟩
  rw [e, hst_1]
  exact ⟨fun ⟨s, a, b, d⟩ => ⟨s, a, b.2, b.1, fun r hr or fr => d r hr ⟨fr, or⟩⟩, fun ⟨s, a, b, d, u⟩ => ⟨s, a, ⟨d, b⟩, fun r hr w => u r hr w.2 w.1⟩⟩
theorem hsJ4 (t : XT) (v w : Int64) : sJ (sJ t 4 v) 4 w = sJ t 4 w := by
  unfold sJ uI
  refine Prod.ext rfl (Prod.ext ?_ rfl)
  funext j
  show cond (Nat.beq j 4) w (cond (Nat.beq j 4) v (t.2.1 j)) = cond (Nat.beq j 4) w (t.2.1 j)
  cases Nat.beq j 4 <;> rfl
theorem hpx_look_go {t : XT} {L : Nat → Int32} {c : Nat} {O : Nat → Prop} {v0 R0 : Int64} {Q : XT → Prop} (hE : hcE t L c) (hc : c ≤ 60) (hO : ∀ k, hb (t.2.1 3) k = true ↔ (k < c ∧ O k))
    (hQ : ∀ w, (∀ k, hb w k = true ↔ ((hb R0 k = true ∧ ∃ s, hpo L c O k s) ∨ (¬ hb R0 k = true ∧ hb v0 k = true))) → Q (sJ t 4 w)) :
    ∀ (d i K : Nat) (v : Int64) (li : Nat → Int32) (lj : Nat → Int64), i + d = 60 → 2 * d + 10 ≤ K → li 5 = nI i → (∀ k, hb (lj 3) k = true → k < c ∧ hb R0 k = true) → (∀ k, hb v k = true ↔ (((hb R0 k = true ∧ ¬ hb (lj 3) k = true) ∧ ∃ s, hpo L c O k s) ∨ ((¬ hb R0 k = true ∨ hb (lj 3) k = true) ∧ hb v0 k = true))) → i + hst_n (fun k => hb (lj 3) k = true) c ≤ 60 → wpX7_lookAgain K 1 (sJ t 4 v) li lj Q := by
  intro d
  induction d with
  | zero =>
    intro i K v li lj hd hK e5 hin hv hn
    obtain ⟨K, rfl⟩ : ∃ K', K = K' + 1 := ⟨K - 1, by omega⟩
    obtain rfl : i = 60 := by omega
    have z := hst_0 (p := fun k => hb (lj 3) k = true) (c := c) (by omega)
    have no : ∀ k, ¬ hb (lj 3) k = true := fun k w => z k (hin k w).1 w
    show wbX7_lookAgain_1 (wpX7_lookAgain K) K (sJ t 4 v) li lj Q
    refine ⟨fun _ => hQ v (fun k => ?_), fun x => absurd (show nI 60 ≤ li 5 by rw [e5]; exact nI_le (by omega) (by omega)) x⟩
    rw [hv k]
    exact ⟨fun w => w.imp (fun w => ⟨w.1.1, w.2⟩) (fun w => ⟨w.1.elim id (fun y => absurd y (no k)), w.2⟩), fun w => w.imp (fun w => ⟨⟨w.1, no k⟩, w.2⟩) (fun w => ⟨Or.inl w.1, w.2⟩)⟩
  | succ d ih =>
    intro i K v li lj hd hK e5 hin hv hn
    obtain ⟨K, rfl⟩ : ∃ K', K = K' + 2 := ⟨K - 2, by omega⟩
    show wbX7_lookAgain_1 (wpX7_lookAgain (K + 1)) (K + 1) (sJ t 4 v) li lj Q
    unfold wbX7_lookAgain_1
    rw [e5]
    refine ⟨fun x => absurd (show nI 60 ≤ nI i from x) (nI_ge (by omega) (by omega)), fun _ v2 e2 => ⟨fun z => ?_, fun nz => ?_⟩⟩
    · rw [e2] at z
      have no : ∀ k, ¬ hb (lj 3) k = true := fun k w => absurd w (by rw [hb_z z k]; decide)
      refine hQ v (fun k => ?_)
      rw [hv k]
      exact ⟨fun w => w.imp (fun w => ⟨w.1.1, w.2⟩) (fun w => ⟨w.1.elim id (fun y => absurd y (no k)), w.2⟩), fun w => w.imp (fun w => ⟨⟨w.1, no k⟩, w.2⟩) (fun w => ⟨Or.inl w.1, w.2⟩)⟩
    rcases @hb_ne (lj 3) with z | ⟨j, j64, jb, jl⟩
    · exact absurd (by rw [e2, z]; decide) nz
    obtain ⟨jc, jR⟩ := hin j jb
    have cj : (nI j).toNatClampNeg = j := nI_clamp (by omega)
    refine hw_lowest j64 jb jl (by omega) ?_
    intro v5 e5' v6 e6
    refine ⟨vp_in_nI j64 (by decide), fun v7 e7 v8 e8 => hw_bc64 (by omega) ?_⟩
    have e7 : v7 = t.2.2.2 1 j := e7.trans (congrArg (t.2.2.2 1) cj)
    have e8 : v8 = t.2.2.2 1 j &&& t.2.1 3 := by rw [e8, e7]; rfl
    have b8 : ∀ s, hb v8 s = true ↔ (s < c ∧ (hnF L s j ∧ O s)) := by
      intro s
      rw [e8, hb_and, Bool.and_eq_true, hE.2.2.2.2.2.1 j s, hO s]
      exact ⟨fun w => ⟨w.1.1, w.1.2, w.2.2⟩, fun w => ⟨⟨w.1, w.2.1⟩, w.1, w.2.2⟩⟩
    have cnt := hpo_cnt (L := L) (k := j) (O := O) hc b8
    have b6 : ∀ k, hb v6 k = true ↔ (hb (lj 3) k = true ∧ k ≠ j) := fun k => by rw [e6, e5']; exact hb_rest jb jl k
    have lt := @hst_lt (fun k => hb (lj 3) k = true) (fun k => hb v6 k = true) c j jc jb (fun w => ((b6 j).mp w).2 rfl) (fun k _ w => ((b6 k).mp w).1)
    have nx : ∀ (w : Int64), (∀ k, hb w k = true ↔ ((k = j ∧ ∃ s, hpo L c O j s) ∨ (k ≠ j ∧ hb v k = true))) → wpX7_lookAgain (K + 1) 2 (sJ t 4 w) (uI li 6 (nI j)) (uI lj 3 v6) Q := by
      intro w hw
      show wbX7_lookAgain_2 (wpX7_lookAgain K) K (sJ t 4 w) (uI li 6 (nI j)) (uI lj 3 v6) Q
      intro u eu
      refine ih (i + 1) K w _ _ (by omega) (by omega) (by show u = _; rw [eu]; exact (congrArg (· + Int32.ofInt 1) e5).trans (hs_inc i)) (fun k y => ?_) (fun k => ?_) (show i + 1 + hst_n (fun k => hb v6 k = true) c ≤ 60 by omega)
      · exact hin k ((b6 k).mp y).1
      · show hb w k = true ↔ (((hb R0 k = true ∧ ¬ hb v6 k = true) ∧ ∃ s, hpo L c O k s) ∨ ((¬ hb R0 k = true ∨ hb v6 k = true) ∧ hb v0 k = true))
        rw [hw k, hv k]
        by_cases kj : k = j
        · rw [kj]
          have n6 : ¬ hb v6 j = true := fun y => ((b6 j).mp y).2 rfl
          exact ⟨fun y => y.elim (fun y => Or.inl ⟨⟨jR, n6⟩, y.2⟩) (fun y => absurd rfl y.1), fun y => y.elim (fun y => Or.inl ⟨rfl, y.2⟩) (fun y => y.1.elim (fun q => absurd jR q) (fun q => absurd q n6))⟩
        · have s6 : hb v6 k = true ↔ hb (lj 3) k = true := ⟨fun y => ((b6 k).mp y).1, fun y => (b6 k).mpr ⟨y, kj⟩⟩
          rw [s6]
          exact ⟨fun y => y.elim (fun y => absurd y.1 kj) (fun y => y.2), fun y => Or.inr ⟨kj, y⟩⟩
    refine ⟨fun ne => hw_bit (k := j) j64 (by omega) (fun r11 g11 v12 e12 v13 e13 t14 e14 => ?_), fun eq => hw_bit (k := j) j64 (by omega) (fun r15 g15 v16 e16 t17 e17 => ?_)⟩
    · have e13 : v13 = v &&& (r11 ^^^ (-1)) := by rw [e13, e12]; rfl
      rw [e14, hsJ4]
      refine nx v13 (fun k => ?_)
      rw [e13, hb_cut g11 k]
      refine ⟨fun y => Or.inr ⟨y.2, y.1⟩, fun y => y.elim (fun y => absurd (cnt.mpr y.2) ne) (fun y => ⟨y.2, y.1⟩)⟩
    · have e16 : v16 = v ||| r15 := e16
      rw [e17, hsJ4]
      refine nx v16 (fun k => ?_)
      rw [e16, hb_put g15 k]
      by_cases kj : k = j
      · exact ⟨fun _ => Or.inl ⟨kj, cnt.mp eq⟩, fun _ => Or.inr kj⟩
      · exact ⟨fun y => y.elim (fun y => Or.inr ⟨kj, y⟩) (fun y => absurd y kj), fun y => y.elim (fun y => absurd y.1 kj) (fun y => Or.inl y.2)⟩
theorem hpx_look {t : XT} {L : Nat → Int32} {c K : Nat} {O : Nat → Prop} {R0 : Int64} {Q : XT → Prop} (hE : hcE t L c) (hc : c ≤ 60) (hO : ∀ k, hb (t.2.1 3) k = true ↔ (k < c ∧ O k)) (hR : ∀ k, hb R0 k = true → k < c) (hK : 200 ≤ K)
    (hQ : ∀ w, (∀ k, hb w k = true ↔ ((hb R0 k = true ∧ ∃ s, hpo L c O k s) ∨ (¬ hb R0 k = true ∧ hb (t.2.1 4) k = true))) → Q (sJ t 4 w)) : wqX7_lookAgain K t R0 Q := by
  obtain ⟨K, rfl⟩ : ∃ K', K = K' + 1 := ⟨K - 1, by omega⟩
  have s0 : sJ t 4 (t.2.1 4) = t := by
    unfold sJ uI
    refine Prod.ext rfl (Prod.ext ?_ rfl)
    funext j
    show cond (Nat.beq j 4) (t.2.1 4) (t.2.1 j) = t.2.1 j
    cases h : Nat.beq j 4 with
    | false => rfl
    | true => rw [Nat.eq_of_beq_eq_true h]; rfl
  have l := hst_le (fun k => hb R0 k = true) c
  have g := hpx_look_go (Q := Q) (R0 := R0) (v0 := t.2.1 4) hE hc hO hQ 60 0 K (t.2.1 4) (uI (fun _ => 0) 5 0) (uI (uI (fun _ => 0) 1 R0) 3 R0) (by omega) (by omega) rfl (fun k w => ⟨hR k w, w⟩) (fun k => ?_) (show 0 + hst_n (fun k => hb R0 k = true) c ≤ 60 by omega)
  · rw [s0] at g; exact g
  · show hb (t.2.1 4) k = true ↔ (((hb R0 k = true ∧ ¬ hb R0 k = true) ∧ ∃ s, hpo L c O k s) ∨ ((¬ hb R0 k = true ∨ hb R0 k = true) ∧ hb (t.2.1 4) k = true))
    exact ⟨fun y => Or.inr ⟨(Classical.em (hb R0 k = true)).elim Or.inr Or.inl, y⟩, fun y => y.elim (fun y => absurd y.1.1 y.1.2) (fun y => y.2)⟩
theorem hpx_begin {t : XT} {L P : Nat → Int32} {G : Nat → Prop} {c K : Nat} {Q : XT → Prop} (hE : hcE t L c) (hX : hpX t c P G) (hc : c ≤ 60) (hK : 300 ≤ K) (hQ : ∀ t', hpN t' = hpN t → hpO t' L c (fun k => ¬ G k) → Q t') : wqX7_begin K t (t.2.1 0) Q := by
  obtain ⟨K, rfl⟩ : ∃ K', K = K' + 1 := ⟨K - 1, by omega⟩
  show wbX7_begin_0 (wpX7_begin K) K t (fun _ => 0) (uI (fun _ => 0) 1 (t.2.1 0)) Q
  intro t1 e1 t2 e2
  have e1 : t1 = sJ t 3 (t.2.1 0) := e1
  have n2 : hpN t2 = hpN t := by rw [e2, e1]; rfl
  have l3 : t2.2.1 3 = t.2.1 0 := by rw [e2, e1]; rfl
  have l4 : t2.2.1 4 = 0 := by rw [e2]; rfl
  have hE2 := hcE_K (congrArg (fun q => q.1) n2) hE
  have hO : ∀ k, hb (t2.2.1 3) k = true ↔ (k < c ∧ ¬ G k) := fun k => by rw [l3]; exact hX.2.2.1 k
  refine hpx_look (t := t2) (R0 := t.2.1 0) (O := fun k => ¬ G k) hE2 hc hO (fun k w => ((hX.2.2.1 k).mp w).1) (by omega) (fun w hw => hQ _ (show hpN (sJ t2 4 w) = hpN t from n2) ⟨hO, fun k => ?_⟩)
  show hb w k = true ↔ _
  rw [hw k, hX.2.2.1 k, l4, hb_0]
  exact ⟨fun y => y.elim (fun y => ⟨y.1.1, y.1.2, y.2⟩) (fun y => absurd y.2 (by decide)), fun y => Or.inl ⟨⟨y.1, y.2.1⟩, y.2.2⟩⟩
theorem hpx_close {t : XT} {L : Nat → Int32} {c j K : Nat} {O : Nat → Prop} {Q : XT → Prop} (hE : hcE t L c) (hO : hpO t L c O) (hc : c ≤ 60) (hj : j < c) (hK : 300 ≤ K) (hQ : ∀ t', hpN t' = hpN t → hpO t' L c (fun k => O k ∧ k ≠ j) → Q t') : wqX7_close K t (nI j) Q := by
  obtain ⟨K, rfl⟩ : ∃ K', K = K' + 1 := ⟨K - 1, by omega⟩
  have cj : (nI j).toNatClampNeg = j := nI_clamp (by omega)
  show wbX7_close_0 (wpX7_close K) K t (uI (fun _ => 0) 1 (nI j)) (fun _ => 0) Q
  refine hw_bit (k := j) (by omega) (by omega) (fun r1 g1 v2 e2 v3 e3 t4 e4 => hw_bit (k := j) (by omega) (by omega) (fun r5 g5 v6 e6 v7 e7 t8 e8 => ⟨vp_in_nI (n := j) (by omega) (by decide), fun v9 e9 v10 e10 => ?_⟩))
  have n8 : hpN t8 = hpN t := by rw [e8, e4]; rfl
  have l3 : t8.2.1 3 = t.2.1 3 &&& (r1 ^^^ (-1)) := by rw [e8, e4, e3, e2]; rfl
  have l4 : t8.2.1 4 = t.2.1 4 &&& (r5 ^^^ (-1)) := by rw [e8, e7, e6, e4]; rfl
  have hE8 := hcE_K (congrArg (fun q => q.1) n8) hE
  have hO8 : ∀ k, hb (t8.2.1 3) k = true ↔ (k < c ∧ (O k ∧ k ≠ j)) := fun k => by
    rw [l3, hb_cut g1 k, hO.1 k]; exact ⟨fun w => ⟨w.1.1, w.1.2, w.2⟩, fun w => ⟨⟨w.1, w.2.1⟩, w.2.2⟩⟩
  have e9 : v9 = t8.2.2.2 0 j := e9.trans (congrArg (t8.2.2.2 0) cj)
  have b10 : ∀ k, hb v10 k = true ↔ (hnF L j k ∧ (k < c ∧ (O k ∧ k ≠ j))) := fun k => by
    rw [e10, e9, hb_and, Bool.and_eq_true, hE8.2.2.2.2.1 j k, hO8 k]
    exact ⟨fun w => ⟨w.1.2, w.2⟩, fun w => ⟨⟨hj, w.1⟩, w.2⟩⟩
  refine hpx_look (t := t8) (R0 := v10) (O := fun k => O k ∧ k ≠ j) hE8 hc hO8 (fun k w => ((b10 k).mp w).2.1) (by omega) (fun w hw => hQ _ (show hpN (sJ t8 4 w) = hpN t from n8) ⟨hO8, fun k => ?_⟩)
  show hb w k = true ↔ _
  rw [hw k, b10 k, l4, hb_cut g5 k, hO.2 k]
  refine ⟨fun y => ?_, fun y => ?_⟩
  · rcases y with y | ⟨y1, ⟨y2, y3, s, hs, os, fs, us⟩, y4⟩
    · exact ⟨y.1.2.1, y.1.2.2, y.2⟩
    · have nF : ¬ hnF L j k := fun q => y1 ⟨q, y2, y3, y4⟩
      exact ⟨y2, ⟨y3, y4⟩, s, hs, ⟨os, fun q => nF (by rw [← q]; exact fs)⟩, fs, fun r hr or fr => us r hr or.1 fr⟩
  · obtain ⟨y2, y3, s, hs, os, fs, us⟩ := y
    by_cases nF : hnF L j k
    · exact Or.inl ⟨⟨nF, y2, y3⟩, s, hs, os, fs, us⟩
    · refine Or.inr ⟨fun q => nF q.1, ⟨y2, y3.1, s, hs, os.1, fs, fun r hr or fr => us r hr ⟨or, fun q => nF (by rw [← q]; exact fr)⟩ fr⟩, y3.2⟩
