/-! what holds between two calls, and every call's step -/
section IV
variable {h h1 h' : AH} {cs cs' : List Int32} {σ σ' : SV} {vs vs' : List SV} {M M' : Nat → SH} {ρ ρ' : RV} {ps ps' : List RV} {E : EV}
theorem liv_lt (H : Plb h cs σ vs M) : ∀ a, Liv σ vs a → a ≠ h.length := fun a ha q => by
  obtain ⟨fs, e⟩ := (H.shm.1 a ha).1.ad
  have := (List.getElem?_eq_some_iff.mp e).1
  omega
theorem sm_both (H : StR M σ ρ) {S S' : SH} (h : SR S S') (ne : S ≠ []) : SmB (bxP S σ.2.2.1 σ.2.2.2.1) ∧ SmB (bxR S' ρ.2.2.1 ρ.2.2.2.1) := by
  obtain ⟨e, wq⟩ := H.2.2.1
  have e1 : σ.2.2.1 = ρ.2.2.1 := congrArg Prod.fst e
  have e2 : σ.2.2.2.1 = ρ.2.2.2.1 := congrArg (fun q => q.2.1) e
  have b := (box_sm (c := ρ.2.2.2.2) (w := ρ.2.2.1) (hh := ρ.2.2.2.1) h ne wq).1
  rw [bx_eq h ne, e1, e2]
  exact ⟨b, b⟩
theorem tnS_any (t : Int32) (S : SH) : ∃ j, j < 4 ∧ tnS t S = qtN j S := by
  have k3 : ∀ t : Int32, t.toInt ≠ 0 → t.toInt ≠ 1 → t.toInt ≠ 2 → tnS t S = tnS 3 S := fun t h0 h1 h2 => by
    unfold tnS
    congr 1
    funext P
    congr 1
    funext v
    have z : (3 : Int32).toInt = 3 := by decide
    unfold trP trX
    rw [z, if_neg h0, if_neg h1, if_neg h2, if_neg h0, if_neg h1, if_neg h2]
    simp
  by_cases c0 : t.toInt = 0
  · have : t = Int32.ofNat 0 := Int32.toInt_inj.mp c0
    exact ⟨0, by omega, by rw [this]; exact tnS_qt (by omega) S⟩
  · by_cases c1 : t.toInt = 1
    · have : t = Int32.ofNat 1 := Int32.toInt_inj.mp c1
      exact ⟨1, by omega, by rw [this]; exact tnS_qt (by omega) S⟩
    · by_cases c2 : t.toInt = 2
      · have : t = Int32.ofNat 2 := Int32.toInt_inj.mp c2
        exact ⟨2, by omega, by rw [this]; exact tnS_qt (by omega) S⟩
      · exact ⟨3, by omega, by rw [k3 t c0 c1 c2]; exact tnS_qt (t := 3) (by omega) S⟩
theorem app_ok {c : Int32} (C : ∀ c, c ∈ cs → c ≠ (-1 : Int32)) : ∀ x, x ∈ (cAppend cs c).2 → x ≠ (-1 : Int32) := by
  unfold cAppend
  by_cases k : ¬ c < 0 ∧ c ≤ 255
  · rw [ifC_pos k]
    split
    · intro x hx
      rcases List.mem_append.mp hx with q | q
      · exact C x q
      · rw [List.mem_singleton] at q
        subst q
        intro e
        rw [e] at k
        exact k.1 (by decide)
    · exact C
  · rw [ifC_neg k]; exact C
end IV
