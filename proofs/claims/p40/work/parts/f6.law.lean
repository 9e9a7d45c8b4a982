/-! the law's loop -/
def I34 (m k n : Nat) (h : AH) (l1 : Option Nat) (l2 l3 : Int32) : Prop := ∃ e cs ρ ps, m = (36 - e) * 10000 ∧ e ≤ 36 ∧ l1 = some 0 ∧ l2 = Int32.ofNat ps.length ∧ ps.length ≤ 6 ∧ l3 = Int32.ofNat e ∧ LW h cs ρ ps ∧ k ≤ 400 + 4 * e ∧ n ≤ 12000 + 50 * e
/-- what can be undone -/
def Und (ρ : RV) (ps : List RV) (l5 : Int64) (l8 : Int32) : Prop := l8 = 0 ∨ ∃ ρ0 ps0, ps = pushR ps0 ρ0 ∧ l5 = tl ρ0
def Mid (e k n : Nat) (h : AH) (l1 : Option Nat) (l2 l3 : Int32) (l5 : Int64) (l8 : Int32) (cs : List Int32) (ρ : RV) (ps : List RV) : Prop := e < 36 ∧ l1 = some 0 ∧ l2 = Int32.ofNat ps.length ∧ ps.length ≤ 6 ∧ l3 = Int32.ofNat e ∧ LW h cs ρ ps ∧ Und ρ ps l5 l8 ∧ k ≤ 400 + 4 * e + 4 ∧ n ≤ 12000 + 50 * e + 50
def I120 (m k n : Nat) (h : AH) (l1 : Option Nat) (l2 l3 l4 : Int32) (l5 : Int64) (l8 l9 l10 : Int32) : Prop := ∃ e cs ρ ps i, m = (36 - e) * 10000 - 1 - i * 100 ∧ Mid e k n h l1 l2 l3 l5 l8 cs ρ ps ∧ i ≤ ρ.2.1.length ∧ l9 = rtp ρ i (i + 1) ∧ l10 = Int32.ofNat i
def I135 (m k n : Nat) (h : AH) (l1 : Option Nat) (l2 l3 l4 : Int32) (l5 : Int64) (l8 l9 l10 l11 : Int32) : Prop := ∃ e cs ρ ps i j, m = (36 - e) * 10000 - 1 - i * 100 - 1 - j ∧ Mid e k n h l1 l2 l3 l5 l8 cs ρ ps ∧ i < ρ.2.1.length ∧ i + 1 ≤ j ∧ j ≤ ρ.2.1.length ∧ l9 = rtp ρ i j ∧ l10 = Int32.ofNat i ∧ l11 = Int32.ofNat j
def I175 (m k n : Nat) (h : AH) (l1 : Option Nat) (l2 l3 l4 : Int32) (l5 : Int64) (l8 l9 l10 l11 : Int32) : Prop := ∃ e cs ρ ps i t, m = (36 - e) * 10000 - 1 - i * 100 - 50 - t ∧ Mid e k n h l1 l2 l3 l5 l8 cs ρ ps ∧ i < ρ.2.1.length ∧ t ≤ 4 ∧ l9 = rtp ρ (i + 1) (i + 1 + 1) ∧ l10 = Int32.ofNat i ∧ l11 = Int32.ofNat (2 * t)
section LL
variable {E : EV} {post : Option AV → AH → Prop} {h : AH} {k n e : Nat} {cs : List Int32} {ρ : RV} {ps : List RV} {l1 : Option Nat} {l2 l3 l4 l8 : Int32} {l5 : Int64}
theorem i32_two (j : Nat) : Int32.ofNat j + 2 = Int32.ofNat (j + 2) := (Int32.ofNat_add j 2).symm
theorem i32_down {j : Nat} (h : 1 ≤ j) : Int32.ofNat j - 1 = Int32.ofNat (j - 1) ∧ Int32.ofNat j + (-1 : Int32) = Int32.ofNat (j - 1) := by
  obtain ⟨q, rfl⟩ : ∃ q, j = q + 1 := ⟨j - 1, by omega⟩
  rw [Nat.add_sub_cancel]
  have e1 : Int32.ofNat (q + 1) = Int32.ofNat q + 1 := (i32_s q).symm
  have e2 : Int32.ofNat q + 1 - 1 = Int32.ofNat q := Int32.add_sub_cancel _ _
  have e3 : Int32.ofNat q + 1 + (-1 : Int32) = Int32.ofNat q := by rw [← Int32.sub_eq_add_neg]; exact e2
  rw [e1]
  exact ⟨e2, e3⟩
theorem Mid.room (W : Mid e k n h l1 l2 l3 l5 l8 cs ρ ps) : k ≤ 600000 ∧ n ≤ 7302249 := by
  obtain ⟨a, -, -, -, -, -, -, b, c⟩ := W
  omega
theorem Mid.go (W : Mid e k n h l1 l2 l3 l5 l8 cs ρ ps) {h' : AH} (W' : LW h' cs ρ ps) : Mid e k n h' l1 l2 l3 l5 l8 cs ρ ps := by
  obtain ⟨a, b, c, d, f, -, g, i, j⟩ := W
  exact ⟨a, b, c, d, f, W', g, i, j⟩
theorem Mid.lw (W : Mid e k n h l1 l2 l3 l5 l8 cs ρ ps) : LW h cs ρ ps := W.2.2.2.2.2.1
theorem t250 {m : Nat} (hm : (35 - e) * 10000 < m) (W : Mid e k n h (some 0) l2 l3 l5 l8 cs ρ ps) : PX12_law_250 E post (fun k n h l1 l2 l3 => ∃ m', m' < m ∧ I34 m' k n h l1 l2 l3) k n h (some 0) l2 l3 l4 l5 l8 := by
  have rm := W.room
  obtain ⟨he, -, rfl, h6, rfl, L, U, hk, hn⟩ := W
  unfold PX12_law_250
  have stay : ∀ h', LW h' cs ρ ps → ∃ m', m' < m ∧ I34 m' k n h' (some 0) (Int32.ofNat ps.length) (Int32.ofNat e + 1) := fun h' W' => ⟨(35 - e) * 10000, hm, e + 1, cs, ρ, ps, by rw [show 36 - (e + 1) = 35 - e by omega], by omega, rfl, rfl, h6, i32_s e, W', by omega, by omega⟩
  refine ⟨fun _ => stay h L, fun nz => ⟨fun _ => stay h L, fun _ => ⟨rm, ?_⟩⟩⟩
  rcases U with U | ⟨ρ0, ps0, rfl, rfl⟩
  · exact absurd U nz
  · have p1 : 1 ≤ (pushR ps0 ρ0).length := List.length_pos_iff.mpr push_last.2
    obtain ⟨d1, d2⟩ := i32_down p1
    refine lw_undo L fun h2 W2 => ⟨fun q => q d1.symm, fun _ => ⟨rm, lw_tale W2 fun h4 W4 => ⟨fun _ => ?_, fun q => q (cmp_self _)⟩⟩⟩
    exact ⟨(35 - e) * 10000, hm, e + 1, cs, ρ0, (pushR ps0 ρ0).dropLast, by rw [show 36 - (e + 1) = 35 - e by omega], by omega, rfl, by rw [d2, List.length_dropLast], by rw [List.length_dropLast]; omega, i32_s e, W4, by omega, by omega⟩
theorem t90 {m : Nat} (hm : (36 - e) * 10000 - 1 < m) (he : e < 36) (L : LW h cs ρ ps) (h6 : ps.length ≤ 6) (hk : k ≤ 400 + 4 * e + 4) (hn : n ≤ 12000 + 50 * e + 50) {ps1 : List RV} (hl : l2 = Int32.ofNat ps1.length) (h61 : ps1.length ≤ 6) (hU : (l8 = 0 ∧ ps = ps1) ∨ (¬ l8 = 0 ∧ ∃ ρ1, ps = pushR ps1 ρ1 ∧ l5 = tl ρ1)) : PX12_law_90 E post (fun k n h l1 l2 l3 l4 l5 l8 l9 l10 => ∃ m', m' < m ∧ I120 m' k n h l1 l2 l3 l4 l5 l8 l9 l10) k n h (some 0) l2 (Int32.ofNat e) l4 l5 l8 := by
  subst hl
  unfold PX12_law_90
  have put : ∀ l2' : Int32, l2' = Int32.ofNat ps.length → Und ρ ps l5 l8 → PX12_law_113 E post (fun k n h l1 l2 l3 l4 l5 l8 l9 l10 => ∃ m', m' < m ∧ I120 m' k n h l1 l2 l3 l4 l5 l8 l9 l10) k n h (some 0) (Int32.ofNat e) l4 l5 l8 l2' := fun l2' e2 U => by
    unfold PX12_law_113
    exact ⟨(36 - e) * 10000 - 1 - 0 * 100, by omega, e, cs, ρ, ps, 0, rfl, ⟨he, rfl, e2, h6, rfl, L, U, hk, hn⟩, Nat.zero_le _, (rtp_zero ρ).symm, rfl⟩
  rcases hU with ⟨z, rfl⟩ | ⟨nz, ρ1, rfl, e5⟩
  · exact ⟨fun q => absurd z q, fun _ => put _ rfl (Or.inl z)⟩
  · have len := push_len (ρ := ρ1) h61
    refine ⟨fun _ => ⟨fun c => ?_, fun c => ?_⟩, fun q => absurd q nz⟩
    · have := (i32_le (i := 6) (j := ps1.length) (by omega) (by omega)).mp c
      rw [if_neg (by omega)] at len
      exact put 6 (by rw [len]; rfl) (Or.inr ⟨ρ1, ps1, rfl, e5⟩)
    · have := mt (i32_le (i := 6) (j := ps1.length) (by omega) (by omega)).mpr c
      rw [if_pos (by omega)] at len
      exact put _ (by rw [len]; exact i32_s _) (Or.inr ⟨ρ1, ps1, rfl, e5⟩)
theorem law_walk {X : AX} (C : Cb E X cX12_law RX12 12 rmX12_law) (D : Lw E X) (init : PX12_law_0 E (fun _ _ => True) (fun k n h l1 l2 l3 => ∃ m', I34 m' k n h l1 l2 l3) 0 0 h) : Go E X 12 0 0 0 [] [] h := by
  refine uX12_law C D I34 I120 I135 I175 init ?_ ?_ ?_ ?_
  · rintro m k n h l1 l2 l3 ⟨e, cs, ρ, ps, rfl, he, rfl, rfl, h6, rfl, L, hk, hn⟩
    unfold PX12_law_34
    refine ⟨fun c => ⟨by omega, by omega⟩, fun c => ?_⟩
    have := mt (i32_le (i := 36) (j := e) (by omega) (by omega)).mpr c
    refine ⟨⟨i32_nn (by omega), by omega, by omega⟩, fun v => ⟨⟨by omega, by omega⟩, lw_tale L fun h4 W4 => ⟨⟨by omega, by omega⟩, lw_does W4 v fun r h7 c7 ρ7 ps7 W7 D7 => ⟨fun neg => ?_, fun nn => ?_⟩⟩⟩⟩
    · have eq : ρ7 = ρ ∧ ps7 = ps := by
        rcases D7.1 with ⟨q, -⟩ | ⟨-, q⟩
        · exact absurd neg q
        · exact ⟨congrArg Prod.fst q, congrArg Prod.snd q⟩
      obtain ⟨rfl, rfl⟩ := eq
      unfold PX12_law_71
      exact ⟨fun q => absurd rfl q, fun _ => ⟨⟨by omega, by omega⟩, lw_tale W7 fun h3 W3 => ⟨fun _ => t90 (by omega) (by omega) W3 h6 (by omega) (by omega) rfl h6 (Or.inl ⟨rfl, rfl⟩), fun q => q (cmp_self _)⟩⟩⟩
    · have eq : ps7 = pushR ps ρ := by
        rcases D7.1 with ⟨-, q⟩ | ⟨q, -⟩
        · exact q
        · exact absurd q nn
      subst eq
      have len := push_len (ρ := ρ) h6
      unfold PX12_law_71
      exact ⟨fun _ => t90 (by omega) (by omega) W7 (by rw [len]; split <;> omega) (by omega) (by omega) rfl h6 (Or.inr ⟨by decide, ρ, rfl, rfl⟩), fun q => absurd q (by decide)⟩
  · rintro m k n h l1 l2 l3 l4 l5 l8 l9 l10 ⟨e, cs, ρ, ps, i, rfl, W, hi, rfl, rfl⟩
    have rm := W.room
    have he := W.1
    have n8 := W.lw.n8
    obtain ⟨-, rfl, -⟩ := id W
    unfold PX12_law_120
    refine ⟨rm, lq_count W.lw fun h2 W2 => ⟨fun c => ?_, fun c => ?_⟩⟩
    · have := (i32_le (by omega) (by omega)).mp c
      have ei : i = ρ.2.1.length := by omega
      subst ei
      refine ⟨rm, lq_touch W2 fun h4 W4 => ⟨fun q => q rfl, fun _ => ⟨rm, lq_count W4 fun h6 W6 => ⟨fun _ => t250 (by omega) (W.go W6), fun pos => ?_⟩⟩⟩⟩
      have n0 : 0 < ρ.2.1.length := by
        have := mt (i32_le (i := ρ.2.1.length) (j := 0) (by omega) (by omega)).mpr pos
        omega
      refine ⟨rm, lq_box W6 _ fun h8 W8 => ⟨fun q => ?_, fun _ => ⟨rm, lq_box W8 _ fun h10 W10 => ⟨fun _ => t250 (by omega) (W.go W10), fun q => q (W10.box n0 (Or.inr rfl))⟩⟩⟩⟩
      exact i32_not_lt.mpr (W8.box n0 (Or.inl rfl)) q
    · have := mt (i32_le (i := ρ.2.1.length) (j := i) (by omega) (by omega)).mpr c
      exact fun v3 e3 => ⟨(36 - e) * 10000 - 1 - i * 100 - 1 - (i + 1), by omega, e, cs, ρ, ps, i, i + 1, rfl, W.go W2, by omega, Nat.le_refl _, by omega, rfl, rfl, e3.trans (i32_s i)⟩
  · rintro m k n h l1 l2 l3 l4 l5 l8 l9 l10 l11 ⟨e, cs, ρ, ps, i, j, rfl, W, hi, hij, hj, rfl, rfl, rfl⟩
    have rm := W.room
    have he := W.1
    have n8 := W.lw.n8
    obtain ⟨-, rfl, -⟩ := id W
    unfold PX12_law_135
    refine ⟨rm, lq_count W.lw fun h2 W2 => ⟨fun c => ?_, fun c => ?_⟩⟩
    · have := (i32_le (by omega) (by omega)).mp c
      have ej : j = ρ.2.1.length := by omega
      subst ej
      exact ⟨(36 - e) * 10000 - 1 - i * 100 - 50 - 0, by omega, e, cs, ρ, ps, i, 0, rfl, W.go W2, hi, Nat.zero_le _, rtp_row ρ i, rfl, rfl⟩
    · have := mt (i32_le (i := ρ.2.1.length) (j := j) (by omega) (by omega)).mpr c
      refine ⟨rm, lq_gap W2 _ _ _ fun h4 W4 => ⟨fun q => ?_, fun q => ?_⟩⟩
      · unfold PX12_law_163
        refine fun v1 e1 => ⟨(36 - e) * 10000 - 1 - i * 100 - 1 - (j + 1), by omega, e, cs, ρ, ps, i, j + 1, rfl, W.go W4, hi, by omega, by omega, ?_, rfl, i32_s j⟩
        rw [e1, Int32.add_zero, rtp_succ ρ hij, if_neg (fun z => q ((W4.gap (by omega) (by omega)).mpr z))]
      · unfold PX12_law_163
        refine fun v1 e1 => ⟨(36 - e) * 10000 - 1 - i * 100 - 1 - (j + 1), by omega, e, cs, ρ, ps, i, j + 1, rfl, W.go W4, hi, by omega, by omega, ?_, rfl, i32_s j⟩
        rw [e1, rtp_succ ρ hij, if_pos ((W4.gap (by omega) (by omega)).mp q)]
  · rintro m k n h l1 l2 l3 l4 l5 l8 l9 l10 l11 ⟨e, cs, ρ, ps, i, t, rfl, W, hi, ht, rfl, rfl, rfl⟩
    have rm := W.room
    have he := W.1
    have n8 := W.lw.n8
    obtain ⟨-, rfl, -⟩ := id W
    unfold PX12_law_175
    refine ⟨fun c => ?_, fun c => ?_⟩
    · exact ⟨(36 - e) * 10000 - 1 - (i + 1) * 100, by omega, e, cs, ρ, ps, i + 1, rfl, W, by omega, rfl, i32_s i⟩
    · have lt := mt (i32_le (i := 8) (j := 2 * t) (by omega) (by omega)).mpr c
      have next : ∀ h', LW h' cs ρ ps → ∃ m', m' < (36 - e) * 10000 - 1 - i * 100 - 50 - t ∧ I175 m' k n h' (some 0) l2 l3 l4 l5 l8 (rtp ρ (i + 1) (i + 1 + 1)) (Int32.ofNat i) (Int32.ofNat (2 * t) + 2) := fun h' W' => ⟨(36 - e) * 10000 - 1 - i * 100 - 50 - (t + 1), by omega, e, cs, ρ, ps, i, t + 1, rfl, W.go W', hi, by omega, rfl, rfl, i32_two (2 * t)⟩
      refine ⟨rm, lq_count W.lw fun h2 W2 => ⟨fun _ => next h2 W2, fun one => ⟨rm, ?_⟩⟩⟩
      have n1 : ρ.2.1.length = 1 := i32_inj (n := 1) (by omega) (by omega) one
      have i0 : i = 0 := by omega
      subst i0
      exact lq_esc W2 n1 ⟨i32_nn (by omega), c⟩ fun h4 W4 => ⟨fun _ => next h4 W4, fun q => q rfl⟩
end LL
