/-! the reference's cure: findsCandidates, seeks, orderOf -/
section MC
variable {Q : Int → zM → Prop} {M N : zM} {S : Int}
def mca (M : zM) (C : List Int) : Prop := M 123 53 = (C.length : Int) ∧ C.length ≤ 24 ∧ kro (M 158) 0 C
theorem c152 (hW : pW N) (h : mN N S M) (hk : ∀ l, tbs S l → l < N 4 2) (hL : zLS M) (hQ : ∀ M', (∀ a i, a ≠ 158 → ¬ (a = 123 ∧ i = 53) → M' a i = M a i) → mca M' (pC N S) → Q 0 M') : zF 152 Q [(2, 123)] M := by
  have hm := hW.1
  unfold pC at hQ
  have key : ∀ (n t : Nat) (M' : zM), ((t : Nat) : Int) + n = N 4 2 → (∀ a i, a ≠ 158 → ¬ (a = 123 ∧ i = 53) → M' a i = M a i) → M' 123 53 = ((pcl N S t).length : Int) → kro (M' 158) 0 (pcl N S t) → zS 152 Q 7 [(2, 123), (0, (t : Int))] [] M' := by
    intro n
    induction n with
    | zero =>
      intro t M' ht hM h1 h2
      have hl := pcl_len (N := N) (S := S) t
      refine s152_7 ⟨fun _ => hQ M' hM ⟨by rw [show (N 4 2).toNat = t by omega]; exact h1, by rw [show (N 4 2).toNat = t by omega]; omega, by rw [show (N 4 2).toNat = t by omega]; exact h2⟩, fun q => ?_⟩
      rw [hM 123 3 (by decide) (by omega), h.1] at q; omega
    | succ n ih =>
      intro t M' ht hM h1 h2
      have hl := pcl_len (N := N) (S := S) t
      have row : ∀ a, a ≠ 158 → a ≠ 123 → M' a = M a := fun a p q => funext fun i => hM a i p (by omega)
      have ht' : 0 ≤ ((t : Nat) : Int) ∧ ((t : Nat) : Int) < N 4 2 := by omega
      have w := h.2.2 t ht'.1 ht'.2
      have hw := (hW.2.2.2.2 t ht'.1 ht'.2).1
      have e132 : M' 132 = M 132 := row 132 (by decide) (by decide)
      have e128 : M' 128 t = N 6 t := by rw [row 128 (by decide) (by decide)]; exact w.1
      have e129 : M' 129 t = N 7 t := by rw [row 129 (by decide) (by decide)]; exact w.2.1
      have e142 : M' 142 = M 142 := row 142 (by decide) (by decide)
      have skip : ¬ pcd N S t → zS 152 Q 7 [(2, 123), (0, zw ((t : Int) + 1))] [] M' := fun z => by
        rw [zw_id (by omega)]
        refine ih (t + 1) M' (by omega) hM ?_ ?_ <;> rw [pcl_s, if_neg z]
        · exact h1
        · exact h2
      have add : pcd N S t → (0 ≤ M' 123 53 ∧ M' 123 53 < 24) ∧ zS 152 Q 7 [(2, 123), (0, zw ((t : Int) + 1))] [] (zset (zset M' 158 (M' 123 53) (t : Int)) 123 53 (zw ((M' 123 53) + 1))) := fun z => by
        refine ⟨by omega, ?_⟩
        rw [h1, zw_id (x := (t : Int) + 1) (by omega), zw_id (by omega)]
        refine ih (t + 1) _ (by omega) (fun a i p q => ?_) ?_ ?_
        · rw [← hM a i p q]; unfold zset; rw [if_neg (fun y => q y), if_neg (fun y => p y.1)]
        · rw [pcl_s, if_pos z, zrow_s, fset_s, List.length_append, List.length_singleton]; omega
        · rw [pcl_s, if_pos z, zrow_o _ (by decide), zrow_s]; exact kro_push h2
      refine s152_7 ⟨fun q => ?_, fun _ => ⟨by omega, fun q => ?_, fun q => ?_⟩⟩
      · rw [hM 123 3 (by decide) (by omega), h.1] at q; omega
      · rw [e132] at q
        exact skip (fun z => q ((mN_tie h ht').mpr z.1))
      · rw [e132] at q
        have tie := (mN_tie h ht').mp q
        rw [e128, e129, e142]
        refine ⟨hw.1, fun q2 => add ⟨tie, Or.inl ?_⟩, fun q2 => ⟨hw.2.1, fun q3 => skip (fun z => ?_), fun q3 => add ⟨tie, Or.inr ?_⟩⟩⟩
        · exact fun z => (mN_li hW h hk hL hw.1.1 hw.1.2).mpr z q2
        · rcases z.2 with y | y
          · exact y ((mN_li hW h hk hL hw.1.1 hw.1.2).mp q2)
          · exact y ((mN_li hW h hk hL hw.2.1.1 hw.2.1.2).mp q3)
        · exact fun z => (mN_li hW h hk hL hw.2.1.1 hw.2.1.2).mpr z q3
  refine s152_0 (key (N 4 2).toNat 0 _ (by omega) (fun a i p q => by unfold zset; rw [if_neg (fun y => q y)]) (by rw [zrow_s, fset_s]; rfl) trivial)
theorem b01_sh {n j : Nat} (hj : j < 32) : zand (zshr (n : Int) (j : Int)) 1 = if n.testBit j then 1 else 0 := by
  rw [tb_shr (by omega) (by omega), tb_nat hj]
theorem c153 (hW : pW N) (h : mN N S M) (hp : psx N S) (hL : zLS M) (hca : mca M (pC N S)) (hc12 : (pC N S).length ≤ 12)
    (hQ : ∀ M', mfx M M' → mN N S M' → zLS M' → kCu N S (pC N S) (2 ^ (pC N S).length) (M' 123 49) (M' 123 50) (M' 123 51) → Q 0 M') : zF 153 Q [(2, 123)] M := by
  have hm := hW.1
  have hC := pC_in (N := N) (S := S) hW
  have hC' : ∀ x, x ∈ pC N S → 0 ≤ x ∧ x < 24 := fun x hx => by have := hC x hx; omega
  have hCd : ∀ x, x ∈ pC N S → ptie N S x := fun x hx => (pcl_in _ x hx).2.1
  have hCu := pcl_up (N := N) (S := S) (N 4 2).toNat
  have p12 := pow12 hc12
  obtain ⟨s0, k0⟩ := kCu_1 (C := pC N S) hp.1.2 hp.2.2
  have cinj : ∀ i j : Nat, (hi : i < (pC N S).length) → (hj : j < (pC N S).length) → (pC N S)[i] = (pC N S)[j] → i = j := fun i j hi hj e => by
    have up := List.pairwise_iff_getElem.mp hCu
    rcases Nat.lt_trichotomy i j with q | q | q
    · have := up i j hi hj q; unfold pC at e; omega
    · exact q
    · have := up j i hj hi q; unfold pC at e; omega
  have bits : ∀ s, ∀ l, tbs (zor S (pln (pC N S) s)) l → l < N 4 2 := fun s => pS_b hW hp.1.1 hC
  have hD : ∀ s, pD N (zor S (pln (pC N S) s)) := fun s l hl => by
    rcases tbs_or.mp hl with q | q
    · exact hp.2.1 l q
    · obtain ⟨k, h1, h2, h3⟩ := (pln_b hC' l).mp q
      rw [← h2]; exact (hCd _ (List.getElem_mem h1)).2.2
  have h3 : ∀ M', mfx M M' → M' 123 3 = N 4 2 := fun M' g => by rw [g 123 3 (by omega) (by omega) (by omega)]; exact h.1
  refine s153_0 (c121' hW h hp.1 hL (fun v1 hv => c147' hW h hp.1.1 hp.2.2 ?_))
  generalize hM1 : zset (zset M 123 49 0) 123 50 0 = M1
  have r1 : M1 123 = fset (fset (M 123) 49 0) 50 0 := by rw [← hM1, zrow_s, zrow_s]
  have m1 : mfr M M1 := by rw [← hM1]; exact mfr_s (mfr_s mfr_r (by omega)) (by omega)
  have L1 : zLS M1 := zLS_cg hL (fun a p q => by rw [← hM1, zrow_o _ (by omega), zrow_o _ (by omega)]) (m1 123 3 (by omega) (by omega))
  refine c122' hW (mN_fr h m1) hp.1.1 L1 ?_
  have loop : ∀ (m n : Nat) (M' : zM), n + m = 2 ^ (pC N S).length → 0 < n → mfx M M' → (∃ s : Nat, mN N (zor S (pln (pC N S) s)) M') → mca M' (pC N S) → kCu N S (pC N S) n (M' 123 49) (M' 123 50) (M' 123 51) → zS 153 Q 30 [(2, 123), (0, v1), (0, S), (0, (n : Int)), (3, 0), (3, 0), (3, 0), (3, 0)] [] M' := by
    intro m
    induction m with
    | zero =>
      intro n M' hn hn0 hM hmN hca' hcu
      obtain ⟨s, hmN⟩ := hmN
      refine s153_30 ⟨fun _ => c148 hW hmN hp.1.1 hp.2.1 (fun M2 d1 d2 d3 => hQ M2 (mfx_t hM (mbx_fx d1)) d2 d3 ?_), fun y => ?_⟩
      · rw [d1 123 49 (by omega) (by omega) (by omega), d1 123 50 (by omega) (by omega) (by omega), d1 123 51 (by omega) (by omega) (by omega), show 2 ^ (pC N S).length = n by omega]
        exact hcu
      · rw [hca'.1, p12.2] at y; omega
    | succ m ih =>
      intro n M' hn hn0 hM hmN hca' hcu
      obtain ⟨s, hmN⟩ := hmN
      have nx : ∀ M2, mfx M M2 → (∃ s : Nat, mN N (zor S (pln (pC N S) s)) M2) → mca M2 (pC N S) → kCu N S (pC N S) (n + 1) (M2 123 49) (M2 123 50) (M2 123 51) → zS 153 Q 30 [(2, 123), (0, v1), (0, S), (0, zw ((n : Int) + 1)), (3, 0), (3, 0), (3, 0), (3, 0)] [] M2 := fun M2 y1 y2 y3 y4 => by
        rw [zw_id (by omega)]
        exact ih (n + 1) M2 (by omega) (by omega) y1 y2 y3 y4
      have judge : ∀ (M2 : zM), mfx M M2 → mN N (zor S (pln (pC N S) n)) M2 → mca M2 (pC N S) → kCu N S (pC N S) n (M2 123 49) (M2 123 50) (M2 123 51) → ¬ (0 : Int) < 0 → zS 153 Q 106 [(2, 123), (0, v1), (0, S), (0, (n : Int)), (0, pln (pC N S) n), (0, ((bct n (pC N S).length : Nat) : Int)), (0, ((pC N S).length : Int)), (3, 0)] [] M2 := fun M2 y1 y2 y3 y4 _ => by
        have b24 : bct n (pC N S).length = bct n 24 := by
          have := bct_top (s := n) (c := (pC N S).length) (by omega) (24 - (pC N S).length)
          rw [show (pC N S).length + (24 - (pC N S).length) = 24 by omega] at this
          exact this.symm
        rw [b24]
        refine s153_106 ⟨fun _ => c130' hW y2 (bits n) (fun M3 r g1 g2 => ?_), fun q => by rw [y3.1] at q; omega⟩
        have f3 : mfx M M3 := mfx_t y1 (fun a i p q r => by rw [g1 a (by omega)])
        have mN3 : mN N (zor S (pln (pC N S) n)) M3 := mN_fr y2 (fun a i p q => by rw [g1 a (by omega)])
        have ca3 : mca M3 (pC N S) := by unfold mca; rw [g1 123 (by decide), g1 158 (by decide)]; exact y3
        have cu3 : kCu N S (pC N S) n (M3 123 49) (M3 123 50) (M3 123 51) := by rw [g1 123 (by decide)]; exact y4
        refine ⟨fun q => nx M3 f3 ⟨n, mN3⟩ ca3 (kCu_no cu3 (fun z => ?_)), fun q => ?_⟩
        · rcases g2 with ⟨a, _⟩ | ⟨_, b⟩
          · omega
          · exact absurd z.1 b
        · have hrad : prad N (zor S (pln (pC N S) n)) := by
            rcases g2 with ⟨_, b⟩ | ⟨a, _⟩
            · exact b
            · exact absurd a q
          have hok : pok N (zor S (pln (pC N S) n)) := ⟨bits n, hrad⟩
          refine c118' hW mN3 (fun M4 a1 a2 a3 => c122' hW a2 (bits n) a3 ?_)
          have f4 : mfx M M4 := mfx_t f3 (mfx_f (mfr_7 a1))
          have ca4 : mca M4 (pC N S) := by
            unfold mca
            rw [a1 123 53 (by omega) (by omega), show M4 158 = M3 158 from funext fun i => a1 158 i (by omega) (by omega)]
            exact ca3
          have e49 : M4 123 49 = M3 123 49 := a1 123 49 (by omega) (by omega)
          have e50 : M4 123 50 = M3 123 50 := a1 123 50 (by omega) (by omega)
          have e51 : M4 123 51 = M3 123 51 := a1 123 51 (by omega) (by omega)
          rw [e49, e50, e51]
          have cu4 : kCu N S (pC N S) n (M4 123 49) (M4 123 50) (M4 123 51) := by rw [e49, e50, e51]; exact cu3
          have stay : (psn N S (pC N S) n → plt N (zor S (pln (pC N S) n)) < M3 123 51 ∨ (plt N (zor S (pln (pC N S) n)) = M3 123 51 ∧ M3 123 50 ≤ (bct n 24 : Nat))) → zS 153 Q 30 [(2, 123), (0, v1), (0, S), (0, zw ((n : Int) + 1)), (3, 0), (3, 0), (3, 0), (3, 0)] [] M4 := fun z => nx M4 f4 ⟨n, a2⟩ ca4 (kCu_no cu4 (by rw [e50, e51]; exact z))
          have upd : (M3 123 51 < plt N (zor S (pln (pC N S) n)) ∨ (plt N (zor S (pln (pC N S) n)) = M3 123 51 ∧ (bct n 24 : Nat) < M3 123 50)) → zF 121 (fun x13 M14 => ((¬ (zand x13 (zxor v1 (-1))) = 0 → zS 153 Q 30 [(2, 123), (0, v1), (0, S), (0, zw ((n : Int) + 1)), (3, 0), (3, 0), (3, 0), (3, 0)] [] M14) ∧ ((zand x13 (zxor v1 (-1))) = 0 → zS 153 Q 30 [(2, 123), (0, v1), (0, S), (0, zw ((n : Int) + 1)), (3, 0), (3, 0), (3, 0), (3, 0)] [] (zset (zset (zset M14 123 49 (pln (pC N S) n)) 123 50 ((bct n 24 : Nat) : Int)) 123 51 (plt N (zor S (pln (pC N S) n))))))) [(2, 123)] M4 := fun z => by
            refine c121' hW a2 hok a3 (fun r hr => ?_)
            have be := zbear hr hv
            refine ⟨fun w => stay (fun y => absurd (be.mpr y.2) w), fun w => ?_⟩
            have sn : psn N S (pC N S) n := ⟨hrad, be.mp w⟩
            generalize hM5 : zset (zset (zset M4 123 49 (pln (pC N S) n)) 123 50 ((bct n 24 : Nat) : Int)) 123 51 (plt N (zor S (pln (pC N S) n))) = M5
            have r5 : M5 123 = fset (fset (fset (M4 123) 49 (pln (pC N S) n)) 50 ((bct n 24 : Nat) : Int)) 51 (plt N (zor S (pln (pC N S) n))) := by rw [← hM5, zrow_s, zrow_s, zrow_s]
            have f5 : mfr M4 M5 := by rw [← hM5]; exact mfr_s (mfr_s (mfr_s mfr_r (by omega)) (by omega)) (by omega)
            refine nx M5 (mfx_t f4 (mfx_f f5)) ⟨n, mN_fr a2 f5⟩ ?_ ?_
            · unfold mca
              rw [r5, fset_o _ (by decide), fset_o _ (by decide), fset_o _ (by decide), ← hM5, zrow_o _ (by decide), zrow_o _ (by decide), zrow_o _ (by decide)]
              exact ca4
            · rw [r5, fset_o (j := 49) _ (by decide), fset_o (j := 49) _ (by decide), fset_s, fset_o (j := 50) _ (by decide), fset_s, fset_s]
              exact kCu_up cu4 sn (by rw [e50, e51]; exact z)
          have hlt : ¬ pln (pC N S) n < M3 123 49 := fun z => by
            obtain ⟨s', z1, z2, z3, _⟩ := cu3
            have := pln_lt hC' hCu z1 (by show n < 2 ^ (pC N S).length; omega)
            rw [z3] at z
            omega
          exact ⟨fun z => upd (Or.inl z), fun z => ⟨fun z2 => stay (fun _ => by omega), fun z2 => ⟨fun z3 => upd (Or.inr ⟨z2, z3⟩), fun z3 => ⟨fun z4 => stay (fun _ => by omega), fun z4 => ⟨fun z5 => stay (fun _ => by omega), fun z5 => absurd z5 hlt⟩⟩⟩⟩⟩
      have setl : ∀ (m' j : Nat) (M2 : zM), j + m' = (pC N S).length → (∀ a, a ≠ 132 → M2 a = M' a) → (∀ k : Nat, (hk : k < (pC N S).length) → k < j → M2 132 (pC N S)[k] = if n.testBit k then 1 else 0) → (∀ l, (∀ k : Nat, (hk : k < (pC N S).length) → k < j → (pC N S)[k] ≠ l) → M2 132 l = M' 132 l) → zS 153 Q 106 [(2, 123), (0, v1), (0, S), (0, (n : Int)), (0, pln (pC N S) n), (0, ((bct n (pC N S).length : Nat) : Int)), (0, (j : Int)), (3, 0)] [] M2 := by
        intro m'
        induction m' with
        | zero =>
          intro j M2 hj y1 y2 y3
          have ej : j = (pC N S).length := by omega
          subst ej
          refine judge M2 (fun a i p q r => by rw [y1 a r]; exact hM a i p q r) ?_ ?_ ?_ (by omega)
          · refine ⟨by rw [y1 123 (by decide)]; exact hmN.1, fun v a b => by rw [y1 126 (by decide), y1 127 (by decide)]; exact hmN.2.1 v a b, fun l a b => ?_⟩
            obtain ⟨w1, w2, w3, w4, w5, w6, w7, w8⟩ := hmN.2.2 l a b
            rw [y1 128 (by decide), y1 129 (by decide), y1 130 (by decide), y1 131 (by decide)]
            refine ⟨w1, w2, w3, w4, ?_⟩
            by_cases hl : l ∈ pC N S
            · obtain ⟨k, k1, k2⟩ := List.getElem_of_mem hl
              have tie := hCd l hl
              have e := y2 k k1 k1
              rw [k2] at e
              rw [e, tbs_or, pln_b hC' l]
              refine ⟨⟨fun z => ?_, fun z => Or.inr ⟨k, k1, k2, ?_⟩⟩, ⟨fun z => absurd z tie.2.2, fun z => ?_⟩, ?_⟩
              · rcases z with z | ⟨k', k1', k2', k3'⟩
                · exact absurd z tie.2.1
                · have := cinj k' k k1' k1 (by rw [k2', k2])
                  subst this
                  rw [if_pos k3']
              · by_cases q : n.testBit k = true
                · exact q
                · rw [if_neg q] at z; omega
              · split at z <;> omega
              · split <;> omega
            · have e := y3 l (fun k hk _ z => hl (by rw [← z]; exact List.getElem_mem hk))
              rw [e]
              have nos : ∀ s, ¬ tbs (pln (pC N S) s) l := fun s z => by
                obtain ⟨k, k1, k2, _⟩ := (pln_b hC' l).mp z
                exact hl (by rw [← k2]; exact List.getElem_mem k1)
              rw [← w5, tbs_or, tbs_or]
              exact ⟨⟨fun z => z.elim Or.inl (fun y => absurd y (nos n)), fun z => z.elim Or.inl (fun y => absurd y (nos s))⟩, w6, w7, w8⟩
          · unfold mca; rw [y1 123 (by decide), y1 158 (by decide)]; exact hca'
          · rw [y1 123 (by decide)]; exact hcu
        | succ m' ihm =>
          intro j M2 hj y1 y2 y3
          have hjl : j < (pC N S).length := by omega
          have e158 : M2 158 j = (pC N S)[j] := by
            rw [y1 158 (by decide)]
            have := kro_at hca'.2.2 j hjl
            rw [Int.zero_add] at this; exact this
          have hcj := hC' _ (List.getElem_mem hjl)
          refine s153_106 ⟨fun q => ?_, fun _ => ⟨by omega, by rw [e158]; omega, ?_⟩⟩
          · rw [y1 123 (by decide), hca'.1] at q; omega
          · rw [e158, b01_sh (by omega), zw_id (by omega)]
            refine ihm (j + 1) _ (by omega) (fun a ha => by rw [zrow_o _ ha]; exact y1 a ha) (fun k hk hkj => ?_) (fun l hl => ?_)
            · rw [zrow_s]
              by_cases e : k = j
              · subst e; rw [fset_s]
              · rw [fset_o _ (fun z => e (cinj k j hk hjl z))]; exact y2 k hk (by omega)
            · rw [zrow_s, fset_o _ (fun z => hl j hjl (by omega) z.symm)]
              exact y3 l (fun k hk hkj => hl k hk (by omega))
      have accl : ∀ (m' j : Nat) (acc : Int), j + m' = (pC N S).length → r32 acc → (∀ i, tbs acc i ↔ ∃ k : Nat, ∃ hk : k < (pC N S).length, k < j ∧ (pC N S)[k] = i ∧ n.testBit k = true) → zS 153 Q 49 [(2, 123), (0, v1), (0, S), (0, (n : Int)), (0, acc), (0, ((bct n j : Nat) : Int)), (0, (j : Int)), (3, 0)] [] M' := by
        intro m'
        induction m' with
        | zero =>
          intro j acc hj hr ha
          have ej : j = (pC N S).length := by omega
          have : acc = pln (pC N S) n := tbs_ext hr (pln_r _ n) (fun i => by
            rw [ha i, pln_b hC' i]
            exact ⟨fun ⟨k, hk, _, z⟩ => ⟨k, hk, z⟩, fun ⟨k, hk, z⟩ => ⟨k, hk, by omega, z⟩⟩)
          refine s153_49 ⟨fun _ => ?_, fun q => by rw [hca'.1] at q; omega⟩
          rw [this, ej]
          exact setl (pC N S).length 0 M' (by omega) (fun _ _ => rfl) (fun k _ hk => by omega) (fun l _ => rfl)
        | succ m' ihm =>
          intro j acc hj hr ha
          have hjl : j < (pC N S).length := by omega
          have e158 : M' 158 j = (pC N S)[j] := by
            have := kro_at hca'.2.2 j hjl
            rw [Int.zero_add] at this; exact this
          have hcj := hC' _ (List.getElem_mem hjl)
          have hbs : bct n (j + 1) = bct n j + (if n.testBit j then 1 else 0) := rfl
          have hbb : bct n j ≤ j := by
            have : ∀ j, bct n j ≤ j := fun j => by
              induction j with
              | zero => exact Nat.le_refl _
              | succ j ih => show bct n j + _ ≤ _; split <;> omega
            exact this j
          refine s153_49 ⟨fun q => by rw [hca'.1] at q; omega, fun _ => ?_⟩
          rw [b01_sh (by omega), zw_id (x := (j : Int) + 1) (by omega)]
          by_cases q : n.testBit j = true
          · rw [if_pos q]
            refine ⟨fun z => absurd rfl z, fun _ => ⟨by omega, ?_⟩⟩
            rw [zw_id (by omega), e158]
            rw [if_pos q] at hbs
            have := ihm (j + 1) (zor acc (zshl 1 (pC N S)[j])) (by omega) (zor_r _ _) (fun i => by
              rw [tbs_or, tbs_1 (by omega), ha i]
              constructor
              · rintro (⟨k, hk, z1, z2, z3⟩ | z)
                · exact ⟨k, hk, by omega, z2, z3⟩
                · exact ⟨j, hjl, by omega, z.symm, q⟩
              · rintro ⟨k, hk, z1, z2, z3⟩
                by_cases e : k = j
                · subst e; exact Or.inr z2.symm
                · exact Or.inl ⟨k, hk, by omega, z2, z3⟩)
            rw [hbs] at this
            exact this
          · rw [if_neg q]
            refine ⟨fun _ => ?_, fun z => absurd z (by decide)⟩
            rw [zw_id (by omega), zor_0 hr]
            rw [if_neg q] at hbs
            have := ihm (j + 1) acc (by omega) hr (fun i => by
              rw [ha i]
              constructor
              · rintro ⟨k, hk, z1, z2, z3⟩; exact ⟨k, hk, by omega, z2, z3⟩
              · rintro ⟨k, hk, z1, z2, z3⟩
                refine ⟨k, hk, ?_, z2, z3⟩
                by_cases e : k = j
                · subst e; exact absurd z3 q
                · omega)
            rw [hbs] at this
            exact this
      refine s153_30 ⟨fun y => ?_, fun _ => ?_⟩
      · rw [hca'.1, p12.2] at y; omega
      · exact accl (pC N S).length 0 0 (by omega) (by unfold r32; omega) (fun i => ⟨fun z => absurd z (tbs_0 i), fun ⟨k, hk, z, _⟩ => by omega⟩)
  have e0 : zor S (pln (pC N S) 0) = S := by rw [pln_0]; exact zor_0 hp.2.2
  have hone : 1 ≤ 2 ^ (pC N S).length := Nat.one_le_two_pow
  refine loop (2 ^ (pC N S).length - 1) 1 _ (by omega) (by omega) (mfx_f (mfr_s m1 (by omega))) ⟨0, by rw [e0]; exact mN_fr h (mfr_s m1 (by omega))⟩ ?_ ?_
  · unfold mca
    rw [zrow_s, fset_o _ (by decide), r1, fset_o _ (by decide), fset_o _ (by decide), zrow_o _ (by decide), ← hM1, zrow_o _ (by decide), zrow_o _ (by decide)]
    exact hca
  · rw [zrow_s, fset_o (j := 49) _ (by decide), fset_o (j := 50) _ (by decide), fset_s, r1, fset_o (j := 49) _ (by decide), fset_s, fset_s]
    exact k0
end MC
