/-! normals; whether a place is inside -/
def nrmN (A B : List PT) (q : Nat) : PT := if q < 4 then (dxR (2 * Int32.ofNat q), dyR (2 * Int32.ofNat q)) else if q < 4 + A.length then ((vR A (q - 3)).2 - (vR A (q - 4)).2, (vR A (q - 4)).1 - (vR A (q - 3)).1) else ((vR B (q - 4 - A.length)).2 - (vR B (q - 4 - A.length + 1)).2, (vR B (q - 4 - A.length + 1)).1 - (vR B (q - 4 - A.length)).1)
def rchP (A B : List PT) (n : PT) (r : Int32) : Int32 := hiP A n.1 n.2 + hiP B (-n.1) (-n.2) + r * (szI n.1 + szI n.2)
def inQ (A B : List PT) (x y r e : Int32) (q : Nat) : Bool := decide ((nrmN A B q).1 * x + (nrmN A B q).2 * y < rchP A B (nrmN A B q) r + e)
def insP (A B : List PT) (x y r e : Int32) : Bool := (List.range (4 + A.length + B.length)).all (inQ A B x y r e)
def anyQ (SA SB : SH) (x y r e : Int32) (ij : Nat × Nat) : Bool := insP (SA.getD ij.1 []) (SB.getD ij.2 []) x y r e
def anyP (SA SB : SH) (x y r e : Int32) : Bool := (pre SB.length SA.length 0).any (anyQ SA SB x y r e)
def liePR (SA SB : SH) (x y : Int32) : Int32 := if anyP SA SB x y 0 0 = true then 2 else if anyP SA SB x y 0 1 = true then 1 else 0
section NR
variable {E : EV} {h : AH} {z : Sc} {k : MK} {a b : Nat} {SA SB : SH} {i j : Nat}
theorem m11_normals (H : MoZ h z k) (A : Blk k a SA) (B : Blk k b SB) (hi : i < SA.length) (hj : j < SB.length) : sX11_normals E [aP (some 313), aI (Int32.ofNat a), aI (Int32.ofNat i), aI (Int32.ofNat b), aI (Int32.ofNat j)] h (kI fun r h' => r = Int32.ofNat (4 + (SA.getD i []).length + (SB.getD j []).length) ∧ h' = h) := by
  refine eX11_normals ?_
  unfold PX11_normals_0
  refine cvI H.1 (m11_vertices H A hi) (cvI H.1 (m11_vertices H B hj) ⟨_, rfl, ?_, rfl⟩)
  rw [Int32.ofNat_add, Int32.ofNat_add]; rfl
theorem m11_normal (H : MoZ h z k) (A : Blk k a SA) (B : Blk k b SB) (hi : i < SA.length) (hj : j < SB.length) {q : Nat} (hq : q < 4 + (SA.getD i []).length + (SB.getD j []).length) : sX11_normal E [aP (some 313), aI (Int32.ofNat a), aI (Int32.ofNat i), aI (Int32.ofNat b), aI (Int32.ofNat j), aI (Int32.ofNat q)] h (kV fun h' => h' = h.set 313 (mob k.2.2.2.1 k.2.2.2.2 (zN z (nrmN (SA.getD i []) (SB.getD j []) q).1 (nrmN (SA.getD i []) (SB.getD j []) q).2))) := by
  have lA := (A.2.2.2 i hi).2.1
  have lB := (B.2.2.2 j hj).2.1
  refine eX11_normal ?_
  unfold PX11_normal_0
  refine ⟨fun c => ?_, fun c => ?_⟩
  · have hq4 : 4 ≤ q := (i32_le (i := 4) (by omega) (by omega)).mp c
    refine cvI H.1 (m11_vertices H A hi) ⟨fun c2 => ?_, fun c2 => ?_⟩
    · rw [show (4 : Int32) = Int32.ofNat 4 from rfl, i32_add] at c2
      have hq2 : 4 + (SA.getD i []).length ≤ q := (i32_le (by omega) (by omega)).mp c2
      refine cvI H.1 (m11_vertices H A hi) fun v5 e5 => ?_
      have e5 : v5 = Int32.ofNat (q - 4 - (SA.getD i []).length) := by rw [e5, show (4 : Int32) = Int32.ofNat 4 from rfl, i32_sub hq4 (by omega), i32_sub (by omega) (by omega)]
      subst e5
      rw [i32_s]
      have H1 : MoZ _ (zN z ((vR (SB.getD j []) (q - 4 - (SA.getD i []).length)).2 - (vR (SB.getD j []) (q - 4 - (SA.getD i []).length + 1)).2) z.2.1) k := H.set _
      refine cvI H.1 (m11_yOf H B hj (by omega)) (cvI H.1 (m11_yOf H B hj (by omega)) ((wr_iff H.1).mpr ⟨Nat.le_of_ble_eq_true rfl, cvI H1.1 (m11_xOf H1 B hj (by omega)) (cvI H1.1 (m11_xOf H1 B hj (by omega)) ((wr_iff H1.1).mpr ⟨Nat.le_of_ble_eq_true rfl, rfl, ?_⟩))⟩))
      rw [List.set_set]
      unfold nrmN
      rw [if_neg (by omega), if_neg (by omega)]; rfl
    · rw [show (4 : Int32) = Int32.ofNat 4 from rfl, i32_add] at c2
      have hq2 : ¬ 4 + (SA.getD i []).length ≤ q := mt (i32_le (i := 4 + (SA.getD i []).length) (j := q) (by omega) (by omega)).mpr c2
      have e3 : Int32.ofNat q - 3 = Int32.ofNat (q - 3) := by rw [show (3 : Int32) = Int32.ofNat 3 from rfl, i32_sub (by omega) (by omega)]
      have e4 : Int32.ofNat q - 4 = Int32.ofNat (q - 4) := by rw [show (4 : Int32) = Int32.ofNat 4 from rfl, i32_sub (by omega) (by omega)]
      rw [e3, e4]
      have H1 : MoZ _ (zN z ((vR (SA.getD i []) (q - 3)).2 - (vR (SA.getD i []) (q - 4)).2) z.2.1) k := H.set _
      refine cvI H.1 (m11_yOf H A hi (by omega)) (cvI H.1 (m11_yOf H A hi (by omega)) ((wr_iff H.1).mpr ⟨Nat.le_of_ble_eq_true rfl, cvI H1.1 (m11_xOf H1 A hi (by omega)) (cvI H1.1 (m11_xOf H1 A hi (by omega)) ((wr_iff H1.1).mpr ⟨Nat.le_of_ble_eq_true rfl, rfl, ?_⟩))⟩))
      rw [List.set_set]
      unfold nrmN
      rw [if_neg (by omega), if_pos (by omega)]; rfl
  · have hq4 : ¬ 4 ≤ q := mt (i32_le (i := 4) (j := q) (by omega) (by omega)).mpr c
    have H1 : MoZ _ (zN z (dxR (2 * Int32.ofNat q)) z.2.1) k := H.set _
    refine csI (m11_dirX _) ((wr_iff H.1).mpr ⟨Nat.le_of_ble_eq_true rfl, csI (m11_dirY _) ((wr_iff H1.1).mpr ⟨Nat.le_of_ble_eq_true rfl, rfl, ?_⟩)⟩)
    rw [List.set_set]
    unfold nrmN
    rw [if_pos (by omega)]; rfl
theorem m11_reach (H : MoZ h z k) (A : Blk k a SA) (B : Blk k b SB) (hi : i < SA.length) (hj : j < SB.length) (r : Int32) : sX11_reach E [aP (some 313), aI (Int32.ofNat a), aI (Int32.ofNat i), aI (Int32.ofNat b), aI (Int32.ofNat j), aI r] h (kI fun v h' => v = rchP (SA.getD i []) (SB.getD j []) (z.1, z.2.1) r ∧ h' = h) := by
  refine eX11_reach ?_
  unfold PX11_reach_0
  exact (rdI_iff H.1).mpr ⟨_, rfl, (rdI_iff H.1).mpr ⟨_, rfl, cvI H.1 (m11_high H A hi _ _) ((rdI_iff H.1).mpr ⟨_, rfl, (rdI_iff H.1).mpr ⟨_, rfl, cvI H.1 (m11_high H B hj _ _) ((rdI_iff H.1).mpr ⟨_, rfl, csI (m11_size _) ((rdI_iff H.1).mpr ⟨_, rfl, csI (m11_size _) ⟨_, rfl, rfl, rfl⟩⟩)⟩)⟩⟩)⟩⟩
theorem m11_isInside (H : MoZ h z k) (A : Blk k a SA) (B : Blk k b SB) (hi : i < SA.length) (hj : j < SB.length) (x y r e : Int32) : sX11_isInside E [aP (some 313), aI (Int32.ofNat a), aI (Int32.ofNat i), aI (Int32.ofNat b), aI (Int32.ofNat j), aI x, aI y, aI r, aI e] h (kI fun v h' => v = (if insP (SA.getD i []) (SB.getD j []) x y r e = true then 1 else 0) ∧ (∃ n1 n2, MoZ h' (zN z n1 n2) k) ∧ Fr 313 314 h h') := by
  have lA := (A.2.2.2 i hi).2.1
  have lB := (B.2.2.2 j hj).2.1
  refine uX11_isInside (fun m h' l0 l1 l2 l3 l4 l5 l6 l7 l8 l9 => ∃ q, m = 4 + (SA.getD i []).length + (SB.getD j []).length - q ∧ q ≤ 4 + (SA.getD i []).length + (SB.getD j []).length ∧ l0 = some 313 ∧ l1 = Int32.ofNat a ∧ l2 = Int32.ofNat i ∧ l3 = Int32.ofNat b ∧ l4 = Int32.ofNat j ∧ l5 = x ∧ l6 = y ∧ l7 = r ∧ l8 = e ∧ l9 = Int32.ofNat q ∧ (List.range q).all (inQ (SA.getD i []) (SB.getD j []) x y r e) = true ∧ (∃ n1 n2, MoZ h' (zN z n1 n2) k) ∧ Fr 313 314 h h') ⟨_, 0, rfl, Nat.zero_le _, rfl, rfl, rfl, rfl, rfl, rfl, rfl, rfl, rfl, rfl, rfl, ⟨_, _, H⟩, Fr.refl⟩ ?_
  rintro m h' l0 l1 l2 l3 l4 l5 l6 l7 l8 l9 ⟨q, rfl, hq, rfl, rfl, rfl, rfl, rfl, rfl, rfl, rfl, rfl, rfl, hall, ⟨n1, n2, H'⟩, f⟩
  unfold PX11_isInside_3
  refine cvI H'.1 (m11_normals H' A B hi hj) ⟨fun c => ?_, fun c => ?_⟩
  · have hqq : q = 4 + (SA.getD i []).length + (SB.getD j []).length := by have := (i32_le (by omega) (by omega)).mp c; omega
    subst hqq
    exact ⟨_, rfl, by unfold insP; rw [hall]; rfl, ⟨n1, n2, H'⟩, f⟩
  · have hqq : q < 4 + (SA.getD i []).length + (SB.getD j []).length := by have := mt (i32_le (i := 4 + (SA.getD i []).length + (SB.getD j []).length) (j := q) (by omega) (by omega)).mpr c; omega
    rw [i32_s]
    refine cvV H'.1 (m11_normal H' A B hi hj hqq) ?_
    have H1 := H'.set (zN (zN z n1 n2) (nrmN (SA.getD i []) (SB.getD j []) q).1 (nrmN (SA.getD i []) (SB.getD j []) q).2)
    refine (rdI_iff H1.1).mpr ⟨_, rfl, (rdI_iff H1.1).mpr ⟨_, rfl, cvI H1.1 (m11_reach H1 A B hi hj l7) ⟨fun c2 => ?_, fun c2 => ?_⟩⟩⟩
    · refine ⟨4 + (SA.getD i []).length + (SB.getD j []).length - (q + 1), by omega, q + 1, rfl, hqq, rfl, rfl, rfl, rfl, rfl, rfl, rfl, rfl, rfl, rfl, ?_, ⟨_, _, H1⟩, f.trans fr313⟩
      rw [List.range_succ, List.all_append, hall]
      simp only [List.all_cons, List.all_nil, Bool.and_true, Bool.true_and]
      exact decide_eq_true c2
    · refine ⟨_, rfl, ?_, ⟨_, _, H1⟩, f.trans fr313⟩
      rw [if_neg]
      intro w
      have := List.all_eq_true.mp w q (List.mem_range.mpr hqq)
      exact c2 (of_decide_eq_true this)
theorem m11_isAny (H : MoZ h z k) (A : Blk k a SA) (B : Blk k b SB) (x y r e : Int32) : sX11_isAny E [aP (some 313), aI (Int32.ofNat a), aI (Int32.ofNat b), aI x, aI y, aI r, aI e] h (kI fun v h' => v = (if anyP SA SB x y r e = true then 1 else 0) ∧ (∃ n1 n2, MoZ h' (zN z n1 n2) k) ∧ Fr 313 314 h h') := by
  have lA := A.2.1
  have lB := B.2.1
  have up : ∀ i j, i < SA.length → j < SB.length → anyQ SA SB x y r e (i, j) = true → anyP SA SB x y r e = true := fun i j hi hj q => by
    obtain ⟨w, ew⟩ := pre_pre (k := SB.length) hi hj
    unfold anyP
    rw [ew, List.any_append, List.any_cons, q]; simp
  refine uX11_isAny (fun m h' l0 l1 l2 l3 l4 l5 l6 l7 l8 => ∃ i, m = (SA.length - i) * 10 ∧ i ≤ SA.length ∧ l0 = some 313 ∧ l1 = Int32.ofNat a ∧ l2 = Int32.ofNat b ∧ l3 = x ∧ l4 = y ∧ l5 = r ∧ l6 = e ∧ l8 = Int32.ofNat i ∧ (l7 = 0 ∧ (pre SB.length i 0).any (anyQ SA SB x y r e) = false ∨ l7 = 1 ∧ anyP SA SB x y r e = true) ∧ (∃ n1 n2, MoZ h' (zN z n1 n2) k) ∧ Fr 313 314 h h')
    (fun m h' l0 l1 l2 l3 l4 l5 l6 l7 l8 l9 => ∃ i j, m = (SA.length - i) * 10 - 1 - j ∧ i < SA.length ∧ j ≤ SB.length ∧ l0 = some 313 ∧ l1 = Int32.ofNat a ∧ l2 = Int32.ofNat b ∧ l3 = x ∧ l4 = y ∧ l5 = r ∧ l6 = e ∧ l8 = Int32.ofNat i ∧ l9 = Int32.ofNat j ∧ (l7 = 0 ∧ (pre SB.length i j).any (anyQ SA SB x y r e) = false ∨ l7 = 1 ∧ anyP SA SB x y r e = true) ∧ (∃ n1 n2, MoZ h' (zN z n1 n2) k) ∧ Fr 313 314 h h') ?_ ?_ ?_
  · exact ⟨_, 0, rfl, Nat.zero_le _, rfl, rfl, rfl, rfl, rfl, rfl, rfl, rfl, Or.inl ⟨rfl, rfl⟩, ⟨_, _, H⟩, Fr.refl⟩
  · rintro m h' l0 l1 l2 l3 l4 l5 l6 l7 l8 ⟨i, rfl, hi, rfl, rfl, rfl, rfl, rfl, rfl, rfl, rfl, hl, ⟨n1, n2, H'⟩, f⟩
    unfold PX11_isAny_6
    have h01 : l7 = 0 ∨ l7 = 1 := hl.imp (·.1) (·.1)
    have out : ∀ (w : l7 = (if anyP SA SB l3 l4 l5 l6 = true then 1 else 0)), (l7 = 0 ∨ l7 = 1) ∧ kI (fun v h'' => v = (if anyP SA SB l3 l4 l5 l6 = true then 1 else 0) ∧ (∃ n1 n2, MoZ h'' (zN z n1 n2) k) ∧ Fr 313 314 h h'') (some (aI l7)) h' := fun w => ⟨h01, _, rfl, w, ⟨n1, n2, H'⟩, f⟩
    refine cvI H'.1 (m11_pieces H' A) ⟨fun c => out ?_, fun c => ⟨fun c2 => out ?_, fun c2 => ?_⟩⟩
    · have hii : i = SA.length := by have := (i32_le (by omega) (by omega)).mp c; omega
      subst hii
      rcases hl with ⟨e1, e2⟩ | ⟨e1, e2⟩
      · rw [e1]; unfold anyP; rw [e2]; rfl
      · rw [e1, e2]; rfl
    · rcases hl with ⟨e1, e2⟩ | ⟨e1, e2⟩
      · exact absurd e1 c2
      · rw [e1, e2]; rfl
    · have hii : i < SA.length := by have := mt (i32_le (i := SA.length) (j := i) (by omega) (by omega)).mpr c; omega
      exact ⟨_, by omega, i, 0, rfl, hii, Nat.zero_le _, rfl, rfl, rfl, rfl, rfl, rfl, rfl, rfl, rfl, hl, ⟨n1, n2, H'⟩, f⟩
  · rintro m h' l0 l1 l2 l3 l4 l5 l6 l7 l8 l9 ⟨i, j, rfl, hi, hj, rfl, rfl, rfl, rfl, rfl, rfl, rfl, rfl, rfl, hl, ⟨n1, n2, H'⟩, f⟩
    unfold PX11_isAny_24
    refine cvI H'.1 (m11_pieces H' B) ⟨fun c => ?_, fun c => ⟨fun c2 => ?_, fun c2 => ?_⟩⟩
    · have hjj : j = SB.length := by have := (i32_le (by omega) (by omega)).mp c; omega
      subst hjj
      exact ⟨(SA.length - (i + 1)) * 10, by omega, i + 1, rfl, hi, rfl, rfl, rfl, rfl, rfl, rfl, rfl, i32_s i, hl.imp (fun w => ⟨w.1, by rw [← pre_row]; exact w.2⟩) id, ⟨n1, n2, H'⟩, f⟩
    · rcases hl with ⟨e1, e2⟩ | ⟨e1, e2⟩
      · exact absurd e1 c2
      · exact ⟨(SA.length - (i + 1)) * 10, by omega, i + 1, rfl, hi, rfl, rfl, rfl, rfl, rfl, rfl, rfl, i32_s i, Or.inr ⟨e1, e2⟩, ⟨n1, n2, H'⟩, f⟩
    · have hjj : j < SB.length := by have := mt (i32_le (i := SB.length) (j := j) (by omega) (by omega)).mpr c; omega
      have hany : (pre SB.length i j).any (anyQ SA SB l3 l4 l5 l6) = false := by
        rcases hl with ⟨e1, e2⟩ | ⟨e1, e2⟩
        · exact e2
        · rw [e1] at c2; exact absurd c2 (by decide)
      refine cvIq H'.1 (m11_isInside H' A B hi hjj l3 l4 l5 l6) fun v h2 q2 => ?_
      obtain ⟨e2, ⟨m1, m2, H2⟩, f2⟩ := q2
      refine ⟨(SA.length - i) * 10 - 1 - (j + 1), by omega, i, j + 1, rfl, hi, hjj, rfl, rfl, rfl, rfl, rfl, rfl, rfl, rfl, i32_s j, ?_, ⟨m1, m2, H2⟩, f.trans f2⟩
      by_cases w : anyQ SA SB l3 l4 l5 l6 (i, j) = true
      · exact Or.inr ⟨e2.trans (if_pos w), up i j hi hjj w⟩
      · refine Or.inl ⟨e2.trans (if_neg w), ?_⟩
        rw [pre_succ, List.any_append, hany, List.any_cons, List.any_nil]
        simp [w]
theorem m11_lies (H : MoZ h z k) (A : Blk k a SA) (B : Blk k b SB) (x y : Int32) : sX11_lies E [aP (some 313), aI (Int32.ofNat a), aI (Int32.ofNat b), aI x, aI y] h (kI fun v h' => v = liePR SA SB x y ∧ (∃ n1 n2, MoZ h' (zN z n1 n2) k) ∧ Fr 313 314 h h') := by
  refine eX11_lies ?_
  unfold PX11_lies_0 liePR
  refine cvIq H.1 (m11_isAny H A B x y 0 0) fun v h2 q2 => ?_
  obtain ⟨e2, ⟨m1, m2, H2⟩, f2⟩ := q2
  refine ⟨fun c => cvIq H2.1 (m11_isAny H2 A B x y 0 1) fun w h4 q4 => ?_, fun c => ⟨_, rfl, by rw [if_pos (r01 e2 c)], ⟨m1, m2, H2⟩, f2⟩⟩
  obtain ⟨e4, ⟨p1, p2, H4⟩, f4⟩ := q4
  exact ⟨fun c4 => ⟨_, rfl, by rw [if_neg (r00 e2 c), if_neg (r00 e4 c4)], ⟨p1, p2, H4⟩, f2.trans f4⟩, fun c4 => ⟨_, rfl, by rw [if_neg (r00 e2 c), if_pos (r01 e4 c4)], ⟨p1, p2, H4⟩, f2.trans f4⟩⟩
end NR
