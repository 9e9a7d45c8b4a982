/-! removal: sets of items as bits -/
def bB (m : Int32) (q : Nat) : Bool := m.toBitVec.getLsbD q
theorem bB_or (a b : Int32) (q : Nat) : bB (a ||| b) q = (bB a q || bB b q) := by
  unfold bB; rw [Int32.toBitVec_or, BitVec.getLsbD_or]
theorem bB_and (a b : Int32) (q : Nat) : bB (a &&& b) q = (bB a q && bB b q) := by
  unfold bB; rw [Int32.toBitVec_and, BitVec.getLsbD_and]
theorem bB_ext {a b : Int32} (h : ∀ q, q < 32 → bB a q = bB b q) : a = b := by
  apply Int32.toBitVec_inj.mp
  exact BitVec.eq_of_getLsbD_eq fun q hq => h q hq
theorem bB_zero (q : Nat) : bB 0 q = false := by
  unfold bB; rw [show (0 : Int32).toBitVec = 0#32 from rfl, BitVec.getLsbD_zero]
theorem bB_z {m : Int32} : m = 0 ↔ ∀ q, q < 32 → bB m q = false := by
  constructor
  · rintro rfl q _; exact bB_zero q
  · intro h; exact bB_ext fun q hq => by rw [h q hq, bB_zero]
theorem bB_bit : ∀ k, k < 8 → ∀ q, q < 32 → bB ((1 : Int32) <<< (Int32.ofNat k &&& 31)) q = decide (q = k) := by decide +kernel
theorem bB_not : ∀ k, k < 8 → ∀ q, q < 32 → bB (((1 : Int32) <<< (Int32.ofNat k &&& 31)) ^^^ -1) q = !decide (q = k) := by decide +kernel
theorem bB_all : ∀ n, n < 9 → ∀ q, q < 32 → bB (((1 : Int32) <<< (Int32.ofNat n &&& 31)) - 1) q = decide (q < n) := by decide +kernel
theorem bB_255 : ∀ q, q < 32 → bB 255 q = decide (q < 8) := by decide +kernel
theorem bit_256 : ∀ w, w < 256 → ∀ q, q < 8 → bitB (Int32.ofNat w) q = bB (Int32.ofNat w) q ∧ (bB (Int32.ofNat w) q = true → Int32.ofNat w - ((1 : Int32) <<< (Int32.ofNat q &&& 31)) = Int32.ofNat w &&& (((1 : Int32) <<< (Int32.ofNat q &&& 31)) ^^^ -1)) := by decide +kernel
/-- eight bits at most -/
def Lo8 (m : Int32) : Prop := ∀ q, q < 32 → 8 ≤ q → bB m q = false
theorem lo8_nat {m : Int32} (h : Lo8 m) : ∃ w, w < 256 ∧ m = Int32.ofNat w := by
  have e : m = m &&& 255 := bB_ext fun q hq => by
    rw [bB_and, bB_255 q hq]
    by_cases c : q < 8
    · rw [decide_eq_true c, Bool.and_true]
    · rw [h q hq (by omega), Bool.false_and]
  refine ⟨(m &&& 255).toBitVec.toNat, ?_, ?_⟩
  · rw [Int32.toBitVec_and, BitVec.toNat_and]
    have := Nat.and_le_right (n := m.toBitVec.toNat) (m := (255 : Int32).toBitVec.toNat)
    have z : (255 : Int32).toBitVec.toNat = 255 := by decide
    omega
  · rw [← e]
    apply Int32.toBitVec_inj.mp
    show m.toBitVec = BitVec.ofNat 32 m.toBitVec.toNat
    rw [BitVec.ofNat_toNat, BitVec.setWidth_eq]
theorem lo8_bit {m : Int32} (h : Lo8 m) {q : Nat} (hq : q < 8) : bitB m q = bB m q ∧ (bB m q = true → m - ((1 : Int32) <<< (Int32.ofNat q &&& 31)) = m &&& (((1 : Int32) <<< (Int32.ofNat q &&& 31)) ^^^ -1)) := by
  obtain ⟨w, hw, rfl⟩ := lo8_nat h
  exact bit_256 w hw q hq
theorem lo8_del {m : Int32} (h : Lo8 m) {q : Nat} (hq : q < 8) : Lo8 (m &&& (((1 : Int32) <<< (Int32.ofNat q &&& 31)) ^^^ -1)) ∧ ∀ j, j < 32 → bB (m &&& (((1 : Int32) <<< (Int32.ofNat q &&& 31)) ^^^ -1)) j = (bB m j && !decide (j = q)) := by
  refine ⟨fun j h1 h2 => by rw [bB_and, h j h1 h2, Bool.false_and], fun j hj => by rw [bB_and, bB_not q hq j hj]⟩
section RM
variable {M : Nat → SH} {σ : SV} {ρ : RV}
theorem blk_eq (H : StR M σ ρ) {d : Int32} (hd : Dirn d) {q i : Nat} (hq : q < σ.2.1.length) (hi : i < σ.2.1.length) : stbP (itM M σ q) (itM M σ i) (iX σ i - iX σ q) (iY σ i - iY σ q) (dirxF (nx d)) (diryF (nx d)) = rBlk ρ d q i := by
  obtain ⟨a1, a2, ⟨a3, a4⟩, a5⟩ := H.it hq
  obtain ⟨b1, b2, ⟨b3, b4⟩, b5⟩ := H.it hi
  have D := dir_eq hd
  have e := stb_eq a1 b1 (np_sub b5 a5).2 D.2.2.1
  rw [a3, a4, b3, b4, D.1, D.2.1]
  unfold rBlk
  by_cases c : 0 < (stP (rit ρ q).1 (rit ρ i).1 ((rit ρ i).2.1 - (rit ρ q).2.1) ((rit ρ i).2.2 - (rit ρ q).2.2) (dxR d) (dyR d) 0).2
  · rw [e.mpr c]; exact (decide_eq_true c).symm
  · have : stbP (itM M σ q) (itM M σ i) ((rit ρ i).2.1 - (rit ρ q).2.1) ((rit ρ i).2.2 - (rit ρ q).2.2) (dxR d) (dyR d) = false := by
      by_cases z : stbP (itM M σ q) (itM M σ i) ((rit ρ i).2.1 - (rit ρ q).2.1) ((rit ρ i).2.2 - (rit ρ q).2.2) (dxR d) (dyR d) = true
      · exact absurd (e.mp z) c
      · simpa using z
    rw [this]; exact (decide_eq_false c).symm
theorem bo_bits (H : StR M σ ρ) {d : Int32} (hd : Dirn d) {i : Nat} (hi : i < σ.2.1.length) : ∀ q, q < 32 → bB (boP M σ i d) q = (decide (q < σ.2.1.length) && (!decide (q = i) && rBlk ρ d q i)) := fun q hq => by
  have n8 := H.n.2
  have go : ∀ n, n ≤ σ.2.1.length → bB ((List.range n).foldl (boStep M σ i (dirxF (nx d)) (diryF (nx d))) 0) q = (decide (q < n) && (!decide (q = i) && rBlk ρ d q i)) := fun n => by
    induction n with
    | zero => intro _; rw [show (List.range 0).foldl (boStep M σ i (dirxF (nx d)) (diryF (nx d))) 0 = 0 from rfl, bB_zero]; simp
    | succ n ih =>
      intro hn
      have ih := ih (by omega)
      rw [fold_succ]
      generalize (List.range n).foldl (boStep M σ i (dirxF (nx d)) (diryF (nx d))) 0 = acc at *
      unfold boStep
      by_cases c : n = i
      · rw [if_pos c, ih]
        by_cases z : q = n
        · subst z
          rw [decide_eq_true c]; simp
        · rw [show decide (q < n + 1) = decide (q < n) from decide_eq_decide.mpr (by omega)]
      · rw [if_neg c, blk_eq H hd (by omega) hi]
        by_cases b : rBlk ρ d n i = true
        · rw [if_pos b, bB_or, ih, bB_bit n (by omega) q hq]
          by_cases z : q = n
          · subst z
            rw [b, decide_eq_false c]; simp
          · rw [decide_eq_false z, Bool.or_false, show decide (q < n + 1) = decide (q < n) from decide_eq_decide.mpr (by omega)]
        · rw [if_neg b, ih]
          by_cases z : q = n
          · subst z
            have b' : rBlk ρ d q i = false := by simpa using b
            rw [b']; simp
          · rw [show decide (q < n + 1) = decide (q < n) from decide_eq_decide.mpr (by omega)]
  exact go _ (Nat.le_refl _)
theorem bo_and (H : StR M σ ρ) {d : Int32} (hd : Dirn d) {i : Nat} (hi : i < σ.2.1.length) {m : Int32} (hm : Lo8 m) : (boP M σ i d &&& m = 0) ↔ rOut ρ i d m = true := by
  have n8 := H.n
  rw [bB_z]
  unfold rOut
  rw [List.all_eq_true, ← n8.1]
  constructor
  · intro h q hq
    have hq := List.mem_range.mp hq
    have k := h q (by omega)
    rw [bB_and, bo_bits H hd hi q (by omega), decide_eq_true hq, Bool.true_and] at k
    unfold rOutQ
    rw [(lo8_bit hm (by omega : q < 8)).1]
    by_cases c : q = i
    · rw [decide_eq_true c]; simp
    · rw [decide_eq_false c] at k ⊢
      cases hb : rBlk ρ d q i <;> cases hm2 : bB m q <;> rw [hb, hm2] at k <;> simp at k ⊢
  · intro h q hq
    rw [bB_and, bo_bits H hd hi q hq]
    by_cases c : q < σ.2.1.length
    · have k := h q (List.mem_range.mpr c)
      unfold rOutQ at k
      rw [(lo8_bit hm (by omega : q < 8)).1] at k
      by_cases c2 : q = i
      · rw [decide_eq_true c2]; simp
      · rw [decide_eq_false c2] at k ⊢
        cases hb : rBlk ρ d q i <;> cases hm2 : bB m q <;> rw [hb, hm2] at k <;> simp at k ⊢
    · rw [decide_eq_false c]; simp
theorem lo8_all {n : Nat} (hn : n ≤ 8) : Lo8 (((1 : Int32) <<< (Int32.ofNat n &&& 31)) - 1) := fun q h1 h2 => by
  rw [bB_all n (by omega) q h1]; exact decide_eq_false (by omega)
theorem q_escapes (H : StR M σ ρ) (i d : Int32) : cEscapes M σ i d = rEsc ρ i d := ifC_cong (by rw [H.itm]) (fun h => by
  have e := bo_and H h.2 (Itm.lt H h.1) (m := 255) fun q h1 h2 => by rw [bB_255 q h1]; exact decide_eq_false (by omega)
  have n8 := H.n
  have e2 : boP M σ (nx i) d = 0 ↔ boP M σ (nx i) d &&& 255 = 0 := by
    rw [bB_z, bB_z]
    constructor
    · intro k q hq; rw [bB_and, k q hq, Bool.false_and]
    · intro k q hq
      have kk := k q hq
      rw [bB_and, bB_255 q hq] at kk
      by_cases c : q < 8
      · rw [decide_eq_true c, Bool.and_true] at kk; exact kk
      · rw [bo_bits H h.2 (Itm.lt H h.1) q hq, decide_eq_false (by omega), Bool.false_and]
  unfold bI
  by_cases c : boP M σ (nx i) d = 0
  · rw [if_pos c, if_pos (e.mp (e2.mp c))]
  · rw [if_neg c, if_neg fun k => c (e2.mpr (e.mpr k))]) fun _ => rfl
theorem count_del {f : Nat → Bool} {q : Nat} : ∀ n, q < n → f q = true → (List.range n).countP (fun k => f k && !decide (k = q)) + 1 = (List.range n).countP f := fun n => by
  induction n with
  | zero => intro h; omega
  | succ n ih =>
    intro h hf
    rw [List.range_succ, List.countP_append, List.countP_append, List.countP_singleton, List.countP_singleton]
    by_cases c : q = n
    · subst c
      have same : (List.range q).countP (fun k => f k && !decide (k = q)) = (List.range q).countP f := count_cong _ fun k hk => by
        have := List.mem_range.mp hk
        rw [decide_eq_false (by omega : ¬ k = q)]; simp
      rw [same, hf, decide_eq_true rfl]; simp
    · have := ih (by omega) hf
      rw [decide_eq_false (fun z : n = q => c z.symm)]
      simp only [Bool.not_false, Bool.and_true]
      omega
theorem ro_eq (H : StR M σ ρ) {d : Int32} (hd : Dirn d) (k : Int32) : ∀ t u i (m : Int32), t ≤ u → Lo8 m → (List.range σ.2.1.length).countP (bB m) = t → roGo (fun i => boP M σ i d) σ.2.1.length k t i m = rroGo ρ d k u i m := fun t => by
  have n8 := H.n
  have fe : ∀ (m : Int32), Lo8 m → (List.range σ.2.1.length).find? (fuB (fun i => boP M σ i d) m) = (List.range ρ.2.1.length).find? (rroP ρ d m) := fun m hm => by
    rw [← n8.1]
    refine find_cong _ fun q hq => ?_
    have hq := List.mem_range.mp hq
    have b := bo_and H hd hq hm
    unfold fuB rroP
    show (bitB m q && _) = _
    congr 1
    by_cases c : rOut ρ q d m = true
    · rw [c]; exact decide_eq_true (b.mpr c)
    · have c' : rOut ρ q d m = false := by simpa using c
      rw [c']; exact decide_eq_false fun z => c (b.mp z)
  have none_of : ∀ (m : Int32), Lo8 m → (List.range σ.2.1.length).countP (bB m) = 0 → (List.range ρ.2.1.length).find? (rroP ρ d m) = none := fun m hm h0 => by
    rw [List.find?_eq_none]
    intro q hq
    rw [← n8.1] at hq
    have := List.countP_eq_zero.mp h0 q hq
    have hq := List.mem_range.mp hq
    unfold rroP
    rw [(lo8_bit hm (by omega : q < 8)).1]
    simp [this]
  induction t with
  | zero =>
    intro u i m _ hm h0
    cases u with
    | zero => rfl
    | succ u => rw [rroGo_succ, none_of m hm h0]; rfl
  | succ t ih =>
    intro u i m hu hm hc
    obtain ⟨u, rfl⟩ : ∃ v, u = v + 1 := ⟨u - 1, by omega⟩
    rw [roGo_succ, rroGo_succ]
    unfold fuP
    rw [fe m hm]
    cases hf : (List.range ρ.2.1.length).find? (rroP ρ d m) with
    | none => dsimp only; rw [if_pos rfl]
    | some q =>
      dsimp only
      have mem := List.mem_of_find?_eq_some hf
      have hq : q < σ.2.1.length := by rw [n8.1]; exact List.mem_range.mp mem
      have pq := List.find?_some hf
      have bq : bB m q = true := by
        unfold rroP at pq
        rw [(lo8_bit hm (by omega : q < 8)).1] at pq
        exact (Bool.and_eq_true_iff.mp pq).1
      have ne : ¬ Int32.ofNat q = -1 := fun z => by
        have := congrArg Int32.toInt z
        rw [i32_lt (by omega)] at this
        have z1 : (-1 : Int32).toInt = -1 := by decide
        omega
      rw [if_neg ne]
      by_cases c : Int32.ofNat i = k
      · rw [if_pos c, if_pos c]
      · rw [if_neg c, if_neg c, (lo8_bit hm (by omega : q < 8)).2 bq]
        obtain ⟨l1, l2⟩ := lo8_del hm (show q < 8 by omega)
        refine ih u (i + 1) _ (by omega) l1 ?_
        have cd := count_del (f := bB m) σ.2.1.length hq bq
        rw [count_cong (g := fun k => bB m k && !decide (k = q)) _ fun j hj => l2 j (by have := List.mem_range.mp hj; omega)]
        omega
theorem q_removal (H : StR M σ ρ) (d k : Int32) : cRemoval M σ d k = rRemoval ρ d k := ifC_cong Iff.rfl (fun h => by
  have n8 := H.n
  rw [← n8.1]
  refine ro_eq H h.1 k _ 8 0 _ n8.2 (lo8_all n8.2) ?_
  rw [count_cong (g := fun _ => true) _ fun j hj => ?_]
  · rw [List.countP_true, List.length_range]
  · have := List.mem_range.mp hj
    rw [bB_all _ (by omega) j (by omega)]; exact decide_eq_true this) fun _ => rfl
end RM
