/-! the class: the ring of a tie -/
def zfm (lo hi : Int) (M M' : zM) : Prop := ∀ a i : Int, ¬ (lo ≤ a ∧ a ≤ hi) → M' a i = M a i
theorem zfm_r {lo hi : Int} {M : zM} : zfm lo hi M M := fun _ _ _ => rfl
theorem zfm_t {lo hi : Int} {M M' M'' : zM} (h : zfm lo hi M M') (g : zfm lo hi M' M'') : zfm lo hi M M'' := fun a i p => (g a i p).trans (h a i p)
theorem zfm_s {lo hi : Int} {M M' : zM} {a i x : Int} (h : zfm lo hi M M') (ha : lo ≤ a ∧ a ≤ hi) : zfm lo hi M (zset M' a i x) := fun b j p => by
  unfold zset
  rw [if_neg (fun z => by omega)]
  exact h b j p
theorem zfm_w {lo hi lo' hi' : Int} {M M' : zM} (h : zfm lo hi M M') (h1 : lo' ≤ lo) (h2 : hi ≤ hi') : zfm lo' hi' M M' := fun a i p => h a i (by omega)
theorem zfm_row {lo hi : Int} {M M' : zM} (h : zfm lo hi M M') {a : Int} (ha : ¬ (lo ≤ a ∧ a ≤ hi)) : M' a = M a := funext fun i => h a i ha
/-- a row holds a list from k on -/
def kro (r : Int → Int) : Int → List Int → Prop
  | _, [] => True
  | k, x :: L => r k = x ∧ kro r (k + 1) L
theorem kro_app {r : Int → Int} : ∀ {L R : List Int} {k : Int}, kro r k (L ++ R) ↔ kro r k L ∧ kro r (k + L.length) R
  | [], R, k => by simp [kro]
  | x :: L, R, k => by
    simp only [List.cons_append, kro, List.length_cons]
    rw [kro_app, show k + 1 + (L.length : Int) = k + ((L.length + 1 : Nat) : Int) by omega]
    constructor
    · rintro ⟨a, b, c⟩; exact ⟨⟨a, b⟩, c⟩
    · rintro ⟨⟨a, b⟩, c⟩; exact ⟨a, b, c⟩
theorem kro_cg {r r' : Int → Int} : ∀ {L : List Int} {k : Int}, (∀ i, k ≤ i → i < k + L.length → r' i = r i) → kro r k L → kro r' k L
  | [], _, _, _ => trivial
  | x :: L, k, h, ⟨a, b⟩ => by
    simp only [List.length_cons] at h
    exact ⟨by rw [h k (by omega) (by omega)]; exact a, kro_cg (fun i p q => h i (by omega) (by omega)) b⟩
theorem kro_at {r : Int → Int} : ∀ {L : List Int} {k : Int}, kro r k L → ∀ i : Nat, (h : i < L.length) → r (k + i) = L[i]
  | [], _, _, i, h => absurd h (by simp)
  | x :: L, k, ⟨a, b⟩, 0, _ => by simpa using a
  | x :: L, k, ⟨a, b⟩, i + 1, h => by
    have := kro_at b i (by simp at h; omega)
    rw [show k + 1 + (i : Int) = k + ((i + 1 : Nat) : Int) by omega] at this
    simpa using this
theorem kro_mem {r : Int → Int} : ∀ {L : List Int} {k : Int}, kro r k L → ∀ x, x ∈ L ↔ ∃ i, k ≤ i ∧ i < k + L.length ∧ r i = x
  | [], k, _, x => by
    constructor
    · intro h; cases h
    · rintro ⟨i, a, b, _⟩
      simp only [List.length_nil] at b
      omega
  | y :: L, k, ⟨a, b⟩, x => by
    simp only [List.mem_cons, List.length_cons]
    rw [kro_mem b]
    constructor
    · rintro (h | ⟨i, p, q, s⟩)
      · exact ⟨k, by omega, by omega, by rw [a, h]⟩
      · exact ⟨i, by omega, by omega, s⟩
    · rintro ⟨i, p, q, s⟩
      by_cases e : i = k
      · rw [e, a] at s; exact Or.inl s.symm
      · exact Or.inr ⟨i, by omega, by omega, s⟩
theorem nodup_16 {b : Nat} {L : List Int} (hn : L.Nodup) (h : ∀ x, x ∈ L → 0 ≤ x ∧ x < b) : L.length ≤ b := by
  refine pig b L.length (fun i => if h : i < L.length then (L[i]).toNat else 0) (fun i hi => ?_) (fun i j hi hj e => ?_)
  · have := h (L[i]) (List.getElem_mem hi)
    simp only [dif_pos hi]; omega
  · simp only [dif_pos hi, dif_pos hj] at e
    have h1 := h (L[i]) (List.getElem_mem hi)
    have h2 := h (L[j]) (List.getElem_mem hj)
    have e2 : L[i] = L[j] := by omega
    have hp := List.pairwise_iff_getElem.mp hn
    rcases Nat.lt_trichotomy i j with z | z | z
    · exact absurd e2 (hp i j hi hj z)
    · exact z
    · exact absurd e2.symm (hp j i hj hi z)
/-- the place above -/
def kpr (fi se by' : Int → Int) (x : Int) : Int := if fi (by' x) = x then se (by' x) else fi (by' x)
section RG
variable {th cl fd : Int → Prop} {fi se rt by' de fl ne lo be : Int → Int}
theorem kA_pr (h : kA th fi se cl rt by' de) (hc : ∀ l, cl l → 0 ≤ l ∧ ¬ fi l = se l) {x : Int} (hx : th x) (hb : ¬ by' x = -1) : cl (by' x) ∧ zbt fi se (by' x) (kpr fi se by' x) x ∧ th (kpr fi se by' x) ∧ rt x = rt (kpr fi se by' x) ∧ de x = de (kpr fi se by' x) + 1 := by
  obtain ⟨h1, h2 | ⟨h2, u, u1, u2, u3, u4⟩⟩ := h x hx
  · exact absurd h2.1 hb
  · have e : kpr fi se by' x = u := by
      unfold kpr
      rcases u2 with ⟨a, b⟩ | ⟨a, b⟩
      · rw [if_neg (fun z => (hc _ h2).2 (z.trans b.symm))]; exact a
      · rw [if_pos a]; exact b
    rw [e]; exact ⟨h2, u2, u1, u3, u4⟩
theorem kA_inj (h : kA th fi se cl rt by' de) (hc : ∀ l, cl l → 0 ≤ l ∧ ¬ fi l = se l) {x y : Int} (hx : th x) (hy : th y) (hb : ¬ by' x = -1) (e : by' x = by' y) : x = y := by
  obtain ⟨a1, a2, a3, a4, a5⟩ := kA_pr h hc hx hb
  obtain ⟨b1, b2, b3, b4, b5⟩ := kA_pr h hc hy (by rw [← e]; exact hb)
  rw [← e] at b2
  rcases zbt_ends a2 b2 with ⟨p, q⟩ | ⟨p, q⟩
  · exact q.symm
  · rw [p] at b5; rw [← q] at a5; omega
/-- no line by which a dark place hangs carries anything -/
theorem kA_sg {S L : Int → Prop} (h : kA th fi se cl rt by' de) (hc : ∀ l, cl l → (0 ≤ l ∧ l < 24) ∧ ¬ fi l = se l) (hT : kT fd fi se cl L rt by' de) (hF : kF fd lo fi se L by' be fl ne) (hL : ∀ v, L v → th v) {x : Int} (hx : th x) (hb : ¬ by' x = -1) : ksg fi (kG fi se fl ne) (by' x, x) = fl (by' x) ∧ ksg fi (kG fi se fl ne) (by' x, kpr fi se by' x) = - fl (by' x) := by
  obtain ⟨a1, a2, a3, a4, a5⟩ := kA_pr h (fun l q => ⟨(hc l q).1.1, (hc l q).2⟩) hx hb
  have hr := hc _ a1
  have hxp : kpr fi se by' x ≠ x := fun z => by rw [z] at a5; omega
  by_cases q : ne (by' x) = -1
  · have f0 := (hF.2.2.1 _ hr.1.1 hr.1.2).1 q
    have g0 : kG fi se fl ne (by' x) = 0 := by have := kG_abs hT hF hr.1.1 hr.1.2; omega
    unfold ksg
    simp only [g0, f0]
    constructor <;> split <;> rfl
  · obtain ⟨w, w1, w2, w3, w4, w5, w6, w7, w8⟩ := kF_l hT hF hr.1.1 hr.1.2 q
    have hwx : w = x := (kA_inj h (fun l q => ⟨(hc l q).1.1, (hc l q).2⟩) hx (hL w w1) hb w3.symm).symm
    rw [hwx] at w4 w7
    have e : ne (by' x) = kpr fi se by' x := by
      rcases zbt_ends a2 w4 with ⟨p, _⟩ | ⟨p, _⟩
      · exact p
      · exact absurd p w7
    rw [← e]
    rw [← e] at a2 hxp
    unfold ksg kG
    rcases w4 with ⟨p1, p2⟩ | ⟨p1, p2⟩
    · have n1 : ¬ fi (by' x) = x := fun z => hxp (by rw [← p1]; exact z)
      simp only [p1, if_true, hxp, if_false]
      exact ⟨trivial, trivial⟩
    · have n1 : ¬ ne (by' x) = fi (by' x) := fun z => hxp (by rw [z]; exact p1)
      simp only [n1, p2, if_true, if_false, p1]
      have n2 : ¬ x = ne (by' x) := fun z => hxp z.symm
      simp only [n2, if_false, hxp]
      exact ⟨by omega, trivial⟩
end RG
