/-- both constructors, up to the reference's lays -/
def zbM (M : zM) : Bool := decide ((M 1 2 = 0 ∧ M 123 2 = 0 ∧ M 123 3 = 0 ∧ M 123 11 = 0 ∧ M 28 1 = 0 ∧ M 97 8 = -1 ∧ M 112 7 = 0) ∧ (M 12 0 = 0 ∧ M 12 1 = 1 ∧ M 12 2 = 0 ∧ M 12 3 = 0 ∧ M 12 4 = 0 ∧ M 12 5 = 0) ∧ (M 4 0 = 0 ∧ M 4 1 = 0 ∧ M 4 2 = 0 ∧ M 4 3 = 0 ∧ M 4 4 = 0))
  && (List.range 4).all (fun j => decide (M 2 (j : Int) = 0 ∧ M 124 (j : Int) = 0))
  && (List.range 16).all (fun v => decide (M 5 (v : Int) = 0 ∧ M 126 (v : Int) = 0 ∧ M 127 (v : Int) = 0))
  && (List.range 17).all (fun v => decide (M 10 (v : Int) = 0))
  && (List.range 24).all (fun l => decide (M 17 (l : Int) = 0 ∧ M 18 (l : Int) = -1))
  && decide (M 29 0 = 30 ∧ M 29 1 = 38 ∧ M 29 2 = 46 ∧ M 29 3 = 54 ∧ M 29 4 = 62 ∧ M 29 5 = 70)
  && (List.range 159).all (fun a => if (zKl.getD a (9, 0)).1 = 2 then (List.range 56).all (fun j => match zrf (zKl.getD a (9, 0)).2 j with | some o => decide (M (a : Int) (j : Int) = (a : Int) + o) | none => true) else true)
def zboot : Bool := match zxr 1200 67 1 128 0 [(2, 1)] [] 1 (fun _ _ => 0) with
  | some (pc, L, st, n, M) => decide (pc = 128 ∧ L = [(2, 1)] ∧ st = [] ∧ n = 122) && (match zxr 400 97 123 288 0 [(2, 123)] [] 123 M with
    | some (pc2, L2, st2, n2, M2) => decide (pc2 = 288 ∧ L2 = [(2, 123)] ∧ st2 = [(2, 123)] ∧ n2 = 158) && zbM M2
    | none => false)
  | none => false
set_option maxRecDepth 100000 in
theorem zboot_ok : zboot = true := by decide +kernel
theorem zboot_ex : ∃ M1 M2, (∀ Q : zQ, Q 0 122 M1 → zC 67 Q [(2, 1)] 1 (fun _ _ => 0)) ∧ (∀ Q : zQ, zG 97 123 Q 288 [(2, 123)] [(2, 123)] 158 M2 → zC 97 Q [(2, 123)] 123 M1) ∧ zbM M2 = true := by
  have h := zboot_ok
  unfold zboot at h
  split at h
  · rename_i pc L st n M e1
    rw [Bool.and_eq_true] at h
    obtain ⟨h1, h2⟩ := h
    obtain ⟨a1, a2, a3, a4⟩ := of_decide_eq_true h1
    subst a1 a2 a3 a4
    split at h2
    · rename_i pc2 L2 st2 n2 M2 e2
      rw [Bool.and_eq_true] at h2
      obtain ⟨h3, h4⟩ := h2
      obtain ⟨b1, b2, b3, b4⟩ := of_decide_eq_true h3
      subst b1 b2 b3 b4
      refine ⟨M, M2, fun Q hQ => ?_, fun Q hQ => ?_, h4⟩
      · refine zxr_ok _ _ _ _ _ _ _ _ _ _ _ _ _ _ e1 Q (zG_of ?_)
        exact hQ
      · exact zxr_ok _ _ _ _ _ _ _ _ _ _ _ _ _ _ e2 Q hQ
    · cases h2
  · cases h
