/-! hulls: class and reference -/
theorem zP_inj {a b : PT} (h : zP a = zP b) : a = b := by
  have h1 : a.1.toInt = b.1.toInt := congrArg Prod.fst h
  have h2 : a.2.toInt = b.2.toInt := congrArg Prod.snd h
  exact Prod.ext (Int32.toInt_inj.mp h1) (Int32.toInt_inj.mp h2)
def PtS (T : List PT) (t : Z2) : Prop := ∃ i, i < T.length ∧ zP (tAt T i) = t
def Bs (T : List PT) : Prop := ∀ v, v ∈ T → -18 ≤ v.1.toInt ∧ v.1.toInt ≤ 18 ∧ -18 ≤ v.2.toInt ∧ v.2.toInt ≤ 18
theorem Bs.at' {T : List PT} (H : Bs T) (i : Nat) : -18 ≤ (tAt T i).1.toInt ∧ (tAt T i).1.toInt ≤ 18 ∧ -18 ≤ (tAt T i).2.toInt ∧ (tAt T i).2.toInt ≤ 18 := by
  unfold tAt
  by_cases c : i < T.length
  · exact H _ (getD_mem (0, 0) c)
  · rw [List.getD_eq_getElem?_getD, List.getElem?_eq_none (by omega)]
    exact ⟨by decide, by decide, by decide, by decide⟩
theorem Bs.bd {T : List PT} (H : Bs T) (i : Nat) : Bd (tAt T i) := by
  obtain ⟨a, b, c, d⟩ := H.at' i
  exact ⟨by omega, by omega, by omega, by omega⟩
theorem pigeon : ∀ (n K : Nat) (f : Nat → Nat), (∀ i, i < K → f i < n) → (∀ i j, i < K → j < K → f i = f j → i = j) → K ≤ n := fun n => by
  induction n with
  | zero =>
    intro K f h _
    by_cases c : K = 0
    · omega
    · have := h 0 (by omega); omega
  | succ n ih =>
    intro K f h hi
    by_cases c : ∃ i, i < K ∧ f i = n
    · obtain ⟨i0, h0, e0⟩ := c
      have := ih (K - 1) (fun i => f (if i < i0 then i else i + 1)) (fun i hlt => ?_) (fun i j hi' hj' e => ?_)
      · omega
      · have hb : (if i < i0 then i else i + 1) < K := by split <;> omega
        have l := h _ hb
        have ne : f (if i < i0 then i else i + 1) ≠ n := fun q => by
          have := hi _ _ hb h0 (by rw [q, e0])
          split at this <;> omega
        show f (if i < i0 then i else i + 1) < n
        omega
      · have b1 : (if i < i0 then i else i + 1) < K := by split <;> omega
        have b2 : (if j < i0 then j else j + 1) < K := by split <;> omega
        have := hi _ _ b1 b2 e
        split at this <;> split at this <;> omega
    · have := ih K f (fun i hlt => by
        have l := h i hlt
        have : f i ≠ n := fun q => c ⟨i, hlt, q⟩
        omega) hi
      omega
section HB
variable {T : List PT} {K : Nat} {V : Nat → Z2}
/-- the hull of a list of points: what is asked of it -/
def HL (T : List PT) (K : Nat) (V : Nat → Z2) : Prop := (Bs T ∧ T ≠ []) ∧ Low lM K V ∧ V 0 = zP (tAt T (lowT T)) ∧ Hul K V (PtS T)
theorem HL.ne (H : HL T K V) {i : Nat} (h0 : 0 < i) (hK : i < K) : V i ≠ V 0 := H.2.1.1.ne (e := 0) (v := i) (by omega) (by omega)
theorem HL.le (H : HL T K V) : K ≤ T.length := by
  have ch : ∀ k, ∃ i, i < T.length ∧ zP (tAt T i) = V k := fun k => H.2.2.2.2.1 k
  refine pigeon T.length K (fun k => Classical.choose (ch k)) (fun k _ => (Classical.choose_spec (ch k)).1) fun i j hi hj e => ?_
  have a := (Classical.choose_spec (ch i)).2
  have b := (Classical.choose_spec (ch j)).2
  have e : Classical.choose (ch i) = Classical.choose (ch j) := e
  rw [e, b] at a
  rcases Nat.lt_trichotomy i j with q | q | q
  · exact absurd a (H.2.1.1.ne (e := i) (v := j) (by omega) (by omega))
  · exact q
  · exact absurd a.symm (H.2.1.1.ne (e := j) (v := i) (by omega) (by omega))
/-- a list that starts at its lowest point is numbered from its first -/
theorem low_nil {L : List PT} {m : Int} (hm : 0 ≤ m ∧ m ≤ 200) (B : ∀ v, v ∈ L → -m ≤ v.1.toInt ∧ v.1.toInt ≤ m ∧ -m ≤ v.2.toInt ∧ v.2.toInt ≤ m) (h0 : 0 < L.length) (h : ∀ i, 0 < i → i < L.length → dt lM (zP (L.getD 0 (0, 0))) < dt lM (zP (L.getD i (0, 0)))) : low L = 0 := by
  have hne : L ≠ [] := List.length_pos_iff.mp h0
  obtain ⟨i1, i2⟩ := pfold_low L hne
  obtain ⟨j1, j2⟩ := pfold_LoS L hne
  by_cases c : low L = 0
  · exact c
  · exfalso
    have st := h (low L) (by omega) i1
    obtain ⟨⟨k1, k2⟩, -⟩ := j2 0 h0
    have j1' : (L.getD (low L) (0, 0)).2 = (pfold L).2.2.2.2.1 := j1
    rw [i2, ← j1'] at k2
    rw [← j1'] at k1
    have b0 := B _ (getD_mem (0, 0) h0)
    have bv := B _ (getD_mem (0, 0) i1)
    rw [dt_lM, dt_lM] at st
    unfold zP at st
    dsimp only at st
    by_cases d : (L.getD 0 (0, 0)).2 = (L.getD (low L) (0, 0)).2
    · have k2 := k2 d
      rw [d] at st
      omega
    · have : (L.getD 0 (0, 0)).2.toInt ≠ (L.getD (low L) (0, 0)).2.toInt := fun q => d (Int32.toInt_inj.mp q)
      omega
end HB
