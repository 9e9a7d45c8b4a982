/-! the obstacles for a shape -/
def obI (F S : SH) (x y cl : Int32) : List (List PT) := (pre S.length F.length 0).map fun ij => sumP (nfP F S ij) (sqP x y cl)
def obK (M : Nat → SH) (its : List IT) (S : SH) (cl ex : Int32) (k : Nat) : List (List PT) := if Int32.ofNat k = ex then [] else obI (M (its.getD k (0, 0, 0)).1) S (its.getD k (0, 0, 0)).2.1 (its.getD k (0, 0, 0)).2.2 cl
def obsP (M : Nat → SH) (its : List IT) (S : SH) (cl ex : Int32) : List (List PT) := (List.range its.length).flatMap (obK M its S cl ex)
def bxP (S : SH) (w hh : Int32) : BX := (-(pfold S.flatten).2.2.2.1, -(pfold S.flatten).2.2.2.2.1, w - (pfold S.flatten).2.2.2.2.2.1, hh - (pfold S.flatten).2.2.2.2.2.2)
theorem StI.obj {h : AH} {a e : Nat} {σ : SV} (H : StI h a e σ) : h[a]? = some (.inr (8, [aP (some e), aP (some (a + 1)), aP (some (a + 2)), aP (some (a + 3)), aP (some (a + 4)), aI (Int32.ofNat σ.2.1.length), aI σ.2.2.1, aI σ.2.2.2.1, aI σ.2.2.2.2])) ∧ σ.2.1.length ≤ 8 := by
  obtain ⟨sh, xs, ys, S, h8, -⟩ := H
  exact ⟨S.1, h8⟩
def itA (its : List IT) (k : Nat) : IT := its.getD k (0, 0, 0)
section PP
variable {E : EV} {h : AH} {a s e q : Nat} {σ : SV} {S : SH}
theorem t8_shape (H : StI h s e σ) {j : Nat} (hj : j < σ.2.1.length) : sX8_shape E [aP (some s), aI (Int32.ofNat j)] h (kP fun r h' => r = some (itA σ.2.1 j).1 ∧ h' = h) := by
  obtain ⟨sh, xs, ys, S, h8, ag⟩ := H
  have := s8_shape (E := E) S (j := j) (by omega)
  rw [show (itA σ.2.1 j).1 = sh.getD j 0 from congrArg Prod.fst (ag j hj)]; exact this
theorem t8_x (H : StI h s e σ) {j : Nat} (hj : j < σ.2.1.length) : sX8_x E [aP (some s), aI (Int32.ofNat j)] h (kI fun r h' => r = (itA σ.2.1 j).2.1 ∧ h' = h) := by
  obtain ⟨sh, xs, ys, S, h8, ag⟩ := H
  have := s8_x (E := E) S (j := j) (by omega)
  rw [show (itA σ.2.1 j).2.1 = xs.getD j 0 from congrArg (·.2.1) (ag j hj)]; exact this
theorem t8_y (H : StI h s e σ) {j : Nat} (hj : j < σ.2.1.length) : sX8_y E [aP (some s), aI (Int32.ofNat j)] h (kI fun r h' => r = (itA σ.2.1 j).2.2 ∧ h' = h) := by
  obtain ⟨sh, xs, ys, S, h8, ag⟩ := H
  have := s8_y (E := E) S (j := j) (by omega)
  rw [show (itA σ.2.1 j).2.2 = ys.getD j 0 from congrArg (·.2.2) (ag j hj)]; exact this
theorem t8_slot (H : StI h s e σ) {j : Nat} (hj : j < 4) : sX8_slot E [aP (some s), aI (Int32.ofNat j)] h (kP fun r h' => r = some (σ.1.getD j 0) ∧ h' = h) := by
  obtain ⟨sh, xs, ys, S, h8, ag⟩ := H
  exact s8_slot S hj
theorem sqP_ne {x y r : Int32} : sqP x y r ≠ [] := by
  unfold sqP; split <;> simp
theorem sqP_len {x y r : Int32} : (sqP x y r).length ≤ 4 := by
  unfold sqP; split <;> simp
theorem nf_len {S2 : SH} (hS : Pok S) (hS2 : Pok S2) {i j : Nat} (hi : i < S.length) (hj : j < S2.length) : (nfP S S2 (i, j)).length ≤ 12 := by
  have h1 := (hS i hi).2
  have h2 := (hS2 j hj).2
  have h3 : (nfP S S2 (i, j)).length ≤ (S.getD i []).length + ((S2.getD j []).map (trP 2)).length := sumGo_len _ _ _
  rw [List.length_map] at h3; omega
theorem pre_mem {k n : Nat} {ij : Nat × Nat} (h : ij ∈ pre k n 0) : ij.1 < n ∧ ij.2 < k := by
  unfold pre at h
  simp only [List.range_zero, List.map_nil, List.append_nil, List.mem_flatMap, List.mem_map, List.mem_range] at h
  obtain ⟨a, h1, b, h2, rfl⟩ := h
  exact ⟨h1, h2⟩
theorem obs_one {M : Nat → SH} {its : List IT} {cl ex : Int32} (hM : ∀ k, k < its.length → Pok (M (itA its k).1)) : One (obsP M its S cl ex) := by
  intro O hO
  unfold obsP at hO
  rw [List.mem_flatMap] at hO
  obtain ⟨k, hk, hO⟩ := hO
  rw [List.mem_range] at hk
  unfold obK at hO
  split at hO
  · cases hO
  · unfold obI at hO
    rw [List.mem_map] at hO
    obtain ⟨ij, hij, rfl⟩ := hO
    exact sumP_ne (nf_ne (hM k hk) (pre_mem hij).1)
theorem s4_prepare (H : PlAt h a) (T : StI h s e σ) (G : ShAt h q S) (hS : Pok S) (hne : S.flatten ≠ []) (M : Nat → SH) (hM : ∀ k, k < σ.2.1.length → ShAt h (itA σ.2.1 k).1 (M (itA σ.2.1 k).1) ∧ Pok (M (itA σ.2.1 k).1) ∧ ((itA σ.2.1 k).1 + 4 ≤ a ∨ a + 232 ≤ (itA σ.2.1 k).1)) (ds : s + 5 ≤ a ∨ a + 232 ≤ s) (dq : q + 4 ≤ a ∨ a + 232 ≤ q) (ex : Int32) :
    sX4_prepare E [aP (some a), aP (some s), aP (some q), aI ex] h (kV fun h' => PlO h' a (obsP M σ.2.1 S σ.2.2.2.2 ex) (bxP S σ.2.2.1 σ.2.2.2.1) ∧ Fr a (a + 232) h h') := by
  obtain ⟨Os0, bx0, fx, fy, p1, p2, ⟨V0, p3⟩, p4, p5, p6, p7⟩ := H
  obtain ⟨o1, o2⟩ := T.obj
  generalize hn : σ.2.1.length = n at *
  refine uX4_prepare
    (fun m h' l0 l1 l2 l3 l4 => ∃ k Os, m = (n - k) * 1000 ∧ k ≤ n ∧ l0 = some a ∧ l1 = some s ∧ l2 = some q ∧ l3 = ex ∧ l4 = Int32.ofNat k ∧ Os = (List.range k).flatMap (obK M σ.2.1 S σ.2.2.2.2 ex) ∧ Os.length ≤ 9 * k ∧ PlX h' a Os (bxP S σ.2.2.1 σ.2.2.2.1) fx fy ∧ Fr a (a + 232) h h')
    (fun m h' l0 l1 l2 l3 l4 l5 l6 => ∃ k i Os, m = (n - k) * 1000 - 1 - i * 10 ∧ k < n ∧ ¬ Int32.ofNat k = ex ∧ i ≤ (M (itA σ.2.1 k).1).length ∧ l0 = some a ∧ l1 = some s ∧ l2 = some q ∧ l3 = ex ∧ l4 = Int32.ofNat k ∧ l5 = some (itA σ.2.1 k).1 ∧ l6 = Int32.ofNat i ∧ Os = (List.range k).flatMap (obK M σ.2.1 S σ.2.2.2.2 ex) ++ (pre S.length i 0).map (fun ij => sumP (nfP (M (itA σ.2.1 k).1) S ij) (sqP (itA σ.2.1 k).2.1 (itA σ.2.1 k).2.2 σ.2.2.2.2)) ∧ Os.length ≤ 9 * k + 3 * i ∧ PlX h' a Os (bxP S σ.2.2.1 σ.2.2.2.1) fx fy ∧ PolyAt h' (a + 12) (sqP (itA σ.2.1 k).2.1 (itA σ.2.1 k).2.2 σ.2.2.2.2) ∧ Fr a (a + 232) h h')
    (fun m h' l0 l1 l2 l3 l4 l5 l6 l7 => ∃ k i j Os, m = (n - k) * 1000 - 1 - i * 10 - 1 - j ∧ k < n ∧ ¬ Int32.ofNat k = ex ∧ i < (M (itA σ.2.1 k).1).length ∧ j ≤ S.length ∧ l0 = some a ∧ l1 = some s ∧ l2 = some q ∧ l3 = ex ∧ l4 = Int32.ofNat k ∧ l5 = some (itA σ.2.1 k).1 ∧ l6 = Int32.ofNat i ∧ l7 = Int32.ofNat j ∧ Os = (List.range k).flatMap (obK M σ.2.1 S σ.2.2.2.2 ex) ++ (pre S.length i j).map (fun ij => sumP (nfP (M (itA σ.2.1 k).1) S ij) (sqP (itA σ.2.1 k).2.1 (itA σ.2.1 k).2.2 σ.2.2.2.2)) ∧ Os.length ≤ 9 * k + 3 * i + j ∧ PlX h' a Os (bxP S σ.2.2.1 σ.2.2.2.1) fx fy ∧ PolyAt h' (a + 12) (sqP (itA σ.2.1 k).2.1 (itA σ.2.1 k).2.2 σ.2.2.2.2) ∧ Fr a (a + 232) h h') ?_ ?_ ?_ ?_
  · unfold PX4_prepare_0
    obtain ⟨l, b, r, t, st, xs, ys, g1, -, -, -, -, -, -, -, g9⟩ := id G
    rw [List.append_nil] at g9
    have e9 := g9 hne
    obtain ⟨e1, e2, e3, e4⟩ : l = (pfold S.flatten).2.2.2.1 ∧ b = (pfold S.flatten).2.2.2.2.1 ∧ r = (pfold S.flatten).2.2.2.2.2.1 ∧ t = (pfold S.flatten).2.2.2.2.2.2 := ⟨congrArg (·.1) e9, congrArg (·.2.1) e9, congrArg (·.2.2.1) e9, congrArg (·.2.2.2) e9⟩
    have ne1 : a ≠ q := by omega
    have ne2 : a ≠ s := by omega
    refine (rdI_iff g1).mpr ⟨_, rfl, (wr_iff p1).mpr ⟨Nat.le_of_ble_eq_true rfl, (rdI_iff (gsn ne1 g1)).mpr ⟨_, rfl, (wr_iff (gs p1)).mpr ⟨Nat.le_of_ble_eq_true rfl, (rdI_iff (gsn ne2 (gsn ne2 o1))).mpr ⟨_, rfl, (rdI_iff (gsn ne1 (gsn ne1 g1))).mpr ⟨_, rfl, (wr_iff (gs (gs p1))).mpr ⟨Nat.le_of_ble_eq_true rfl, (rdI_iff (gsn ne2 (gsn ne2 (gsn ne2 o1)))).mpr ⟨_, rfl, (rdI_iff (gsn ne1 (gsn ne1 (gsn ne1 g1)))).mpr ⟨_, rfl, (wr_iff (gs (gs (gs p1)))).mpr ⟨Nat.le_of_ble_eq_true rfl, (wr_iff (gs (gs (gs (gs p1))))).mpr ⟨Nat.le_of_ble_eq_true rfl, ?_⟩⟩⟩⟩⟩⟩⟩⟩⟩⟩⟩
    repeat rw [List.set_set]
    have fr : ∀ X : AE, Fr a (a + 1) h (h.set a X) := fun X => Fr.set (Nat.le_refl a) (by omega)
    refine ⟨_, 0, [], rfl, Nat.zero_le _, rfl, rfl, rfl, rfl, rfl, rfl, Nat.zero_le _, ⟨by rw [gs p1]; unfold bxP; rw [e1, e2, e3, e4]; rfl, p2.fr (fr _) (by omega), ⟨V0, p3.fr (fr _) (by omega)⟩, gsn (by omega) p4, by simp, fun j hj => (p6 j hj).imp fun V q => q.fr (fr _) (by omega), fun j hj => by simp at hj⟩, (fr _).weak (by omega) (by omega)⟩
  · rintro m h' l0 l1 l2 l3 l4 ⟨k, Os, rfl, hk, rfl, rfl, rfl, rfl, rfl, eO, hO, PX, f⟩
    have T' := T.fr f (by omega)
    have o1' := T'.obj.1
    have P1 := PX.1
    unfold PX4_prepare_52
    rw [hn] at o1'
    refine (rdI_iff o1').mpr ⟨_, rfl, fun c => ?_, fun c => ⟨fun c2 => ?_, fun c2 => ?_⟩⟩
    · have hkk : k = n := by have := (i32_le (by omega) (by omega)).mp c; omega
      subst hkk
      refine ⟨rfl, ⟨fx, fy, ?_⟩, f⟩
      unfold obsP; rw [hn, ← eO]; exact PX
    · have hkk : k < n := by have := mt (i32_le (i := n) (j := k) (by omega) (by omega)).mpr c; omega
      have hkn : k < σ.2.1.length := by omega
      obtain ⟨-, X2, ⟨V, X3⟩, X4, X5, X6, X7⟩ := PX
      obtain ⟨_, g5⟩ := X3.ad
      refine (rdP_iff P1).mpr ⟨_, rfl, cvI o1' (t8_x T' hkn) (cvI o1' (t8_y T' hkn) ((rdI_iff o1').mpr ⟨_, rfl, cvVq g5 (s5_setSquare X3 _ _ _) fun k1 q1 => ?_⟩))⟩
      have T1 := T'.fr q1.2 (by omega)
      have o2' := T1.obj.1
      refine cvP o2' (t8_shape T1 hkn) ?_
      refine ⟨_, ?_, k, 0, Os, rfl, hkk, c2, Nat.zero_le _, rfl, rfl, rfl, rfl, rfl, rfl, rfl, by rw [eO]; simp [pre], by omega, ⟨(q1.2.2 _ (by omega)).trans P1, X2.fr q1.2 (by omega), ⟨_, q1.1⟩, (q1.2.2 _ (by omega)).trans X4, X5, fun j hj => (X6 j hj).imp fun V q => q.fr q1.2 (by omega), fun j hj => (X7 j hj).fr q1.2 (by omega)⟩, q1.1, f.trans (q1.2.weak (by omega) (by omega))⟩
      omega
    · have hkk : k < n := by have := mt (i32_le (i := n) (j := k) (by omega) (by omega)).mpr c; omega
      refine ⟨(n - (k + 1)) * 1000, by omega, k + 1, Os, rfl, hkk, rfl, rfl, rfl, rfl, i32_s k, ?_, by omega, PX, f⟩
      rw [List.range_succ, List.flatMap_append, ← eO]
      unfold obK; simp [c2]
  · rintro m h' l0 l1 l2 l3 l4 l5 l6 ⟨k, i, Os, rfl, hk, hex, hi, rfl, rfl, rfl, rfl, rfl, rfl, rfl, eO, hO, PX, PS, f⟩
    obtain ⟨MG, MP, Md⟩ := hM k (by omega)
    obtain ⟨fs, g1, gf, g3⟩ := shl (MG.fr f (by omega))
    unfold PX4_prepare_104
    refine (rdI_iff g1).mpr ⟨_, gf, fun c => ?_, fun c => ?_⟩
    · have hii : i = (M (itA σ.2.1 k).1).length := by have := (i32_le (by omega) (by omega)).mp c; omega
      refine ⟨(n - (k + 1)) * 1000, by omega, k + 1, Os, rfl, hk, rfl, rfl, rfl, rfl, i32_s k, ?_, by omega, PX, f⟩
      rw [eO, List.range_succ, List.flatMap_append]
      congr 1
      have : obK M σ.2.1 S σ.2.2.2.2 l3 k = obI (M (itA σ.2.1 k).1) S (itA σ.2.1 k).2.1 (itA σ.2.1 k).2.2 σ.2.2.2.2 := by unfold obK; rw [if_neg hex]; rfl
      rw [List.flatMap_cons, List.flatMap_nil, List.append_nil, this, hii]; rfl
    · have hii : i < (M (itA σ.2.1 k).1).length := by have := mt (i32_le (i := (M (itA σ.2.1 k).1).length) (j := i) (by omega) (by omega)).mpr c; omega
      exact ⟨_, by omega, k, i, 0, Os, rfl, hk, hex, hii, Nat.zero_le _, rfl, rfl, rfl, rfl, rfl, rfl, rfl, rfl, eO, by omega, PX, PS, f⟩
  · rintro m h' l0 l1 l2 l3 l4 l5 l6 l7 ⟨k, i, j, Os, rfl, hk, hex, hi, hj, rfl, rfl, rfl, rfl, rfl, rfl, rfl, rfl, eO, hO, PX, PS, f⟩
    obtain ⟨MG, MP, Md⟩ := hM k (by omega)
    have MG' := MG.fr f (by omega)
    have G' := G.fr f (by omega)
    obtain ⟨fs, g1, gf, g3⟩ := shl G'
    obtain ⟨_, _, _, g4⟩ := shl MG'
    unfold PX4_prepare_117
    refine (rdI_iff g1).mpr ⟨_, gf, fun c => ?_, fun c => ?_⟩
    · have hjj : j = S.length := by have := (i32_le (by omega) (by omega)).mp c; omega
      subst hjj
      exact ⟨(n - k) * 1000 - 1 - (i + 1) * 10, by omega, k, i + 1, Os, rfl, hk, hex, hi, rfl, rfl, rfl, rfl, rfl, rfl, i32_s i, by rw [← pre_row]; exact eO, by omega, PX, PS, f⟩
    · have hjj : j < S.length := by have := mt (i32_le (i := S.length) (j := j) (by omega) (by omega)).mpr c; omega
      obtain ⟨P1, ⟨C, F, X2⟩, X3, X4, X5, X6, X7⟩ := PX
      refine (rdP_iff P1).mpr ⟨_, rfl, cvVq X2.1 (t3_addUp X2 MG' G' MP hS (by omega) (by omega) hi hjj) fun k1 q1 => ?_⟩
      have P1' := (q1.2.2 a (by omega)).trans P1
      have PX1 : PlX k1 a Os (bxP S σ.2.2.1 σ.2.2.2.1) fx fy := ⟨P1', ⟨_, _, q1.1⟩, ⟨_, PS.fr q1.2 (by omega)⟩, (q1.2.2 _ (by omega)).trans X4, X5, fun j hj => (X6 j hj).imp fun V q => q.fr q1.2 (by omega), fun j hj => (X7 j hj).fr q1.2 (by omega)⟩
      have PS1 := PS.fr q1.2 (by omega)
      have hOl : Os.length < 72 := by omega
      obtain ⟨Vo, PO⟩ := PX1.2.2.2.2.2.1 _ hOl
      obtain ⟨_, g6⟩ := PO.ad
      have hC := q1.1.2.2.1
      refine (rdI_iff P1').mpr ⟨_, rfl, cvP P1' (s4_obstacle PX1 hOl) ⟨fun c => (by cases c), fun _ => (rdP_iff P1').mpr ⟨_, rfl, (rdP_iff q1.1.1).mpr ⟨_, rfl, (rdP_iff P1').mpr ⟨_, rfl, cvVq g6 (s5_setSum PO hC PS1 (nf_ne MP hi) sqP_ne ?_ (by omega) (by omega)) fun k2 q2 => ?_⟩⟩⟩⟩⟩
      · have := nf_len MP hS hi hjj
        have := sqP_len (x := (itA σ.2.1 k).2.1) (y := (itA σ.2.1 k).2.2) (r := σ.2.2.2.2)
        omega
      have P2 := (q2.2.2 a (by omega)).trans P1'
      refine (rdI_iff P2).mpr ⟨_, rfl, (wr_iff P2).mpr ⟨Nat.le_of_ble_eq_true rfl, ?_⟩⟩
      have f3 : Fr a (a + 1) k2 (k2.set a (.inr (4, List.set [aP (some (a + 1)), aP (some (a + 12)), aP (some (a + 15)), aI (Int32.ofNat Os.length), aI (bxP S σ.2.2.1 σ.2.2.2.1).1, aI (bxP S σ.2.2.1 σ.2.2.2.1).2.1, aI (bxP S σ.2.2.1 σ.2.2.2.1).2.2.1, aI (bxP S σ.2.2.1 σ.2.2.2.1).2.2.2, aI fx, aI fy] 3 (aI (Int32.ofNat Os.length + 1))))) := Fr.set (Nat.le_refl a) (by omega)
      refine ⟨(n - k) * 1000 - 1 - i * 10 - 1 - (j + 1), by omega, k, i, j + 1, Os ++ [sumP (nfP (M (itA σ.2.1 k).1) S (i, j)) (sqP (itA σ.2.1 k).2.1 (itA σ.2.1 k).2.2 σ.2.2.2.2)], rfl, hk, hex, hi, hjj, rfl, rfl, rfl, rfl, rfl, rfl, rfl, i32_s j, ?_, by simp; omega, ⟨?_, ((q1.1.fr q2.2 (by omega)).fr f3 (by omega) |> fun x => ⟨_, _, x⟩), ⟨_, (PS1.fr q2.2 (by omega)).fr f3 (by omega)⟩, (f3.2 _ (by omega)).trans ((q2.2.2 _ (by omega)).trans PX1.2.2.2.1), by simp; omega, fun j' hj' => ?_, fun j' hj' => ?_⟩, (PS1.fr q2.2 (by omega)).fr f3 (by omega), ((f.trans (q1.2.weak (by omega) (by omega))).trans (q2.2.weak (by omega) (by omega))).trans (f3.weak (by omega) (by omega))⟩
      · rw [pre_succ, List.map_append, eO, List.append_assoc]; rfl
      · rw [gs P2, List.length_append, List.length_singleton, ← i32_s]; rfl
      · by_cases c : j' = Os.length
        · subst c; exact ⟨_, q2.1.fr f3 (by omega)⟩
        · obtain ⟨V, hV⟩ := PX1.2.2.2.2.2.1 j' hj'
          exact ⟨V, (hV.fr q2.2 (by omega)).fr f3 (by omega)⟩
      · rw [List.length_append, List.length_singleton] at hj'
        rw [getD_app]
        by_cases c : j' < Os.length
        · rw [if_pos c]
          exact ((PX1.2.2.2.2.2.2 j' c).fr q2.2 (by omega)).fr f3 (by omega)
        · have : j' = Os.length := by omega
          subst this
          rw [if_neg c, if_pos rfl]; exact q2.1.fr f3 (by omega)
end PP
