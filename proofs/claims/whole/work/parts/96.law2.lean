/-! calls from the law -/
section LAW
variable {p : Program} {l : Launch} {e : Env} {s : State} {m : MethodId} {below : List Frame} {meth : Method} {c : Code} {b L bb : Nat} {xs : Nat → Int32} {D : va_G} {cA cN : ClassId} {n : Int} {M : zM} {H : Heap} {locs : List Loc} {cells slots : Nat} {ls : Array Slot} {Z : State → Prop} {k i pc : Nat} {Q : zQ}
theorem lw_pre {As : List zV} (hs : s.heap.size = bb + 1) (hK : zKs D cA cN s) (hR : zRel bb D cA cN n M H) (hn : n = (cells : Int)) (hS : s.heap.size ≤ H.size) (hz : H.size ≤ s.heap.size + cells) {U : State} (hU : U.heap = H) (hW : s.WarmedH U.vm) : zPc bb D cA cN As n M (As.map (zv bb)).toArray U := by
  refine ⟨rfl, ?_, by rw [hU]; exact hR, zKs_warm hW hK⟩
  obtain ⟨r1, r2, r3, r4⟩ := hR
  rw [hU]
  have g1 : bb + n.toNat + 1 ≤ H.size := by
    by_cases q : n = 0
    · omega
    · have := (r2 _ _ (zws_at (a := n) (by omega) (by omega))).lt
      dsimp only at this
      omega
  omega
theorem lw_runV {pos : Nat} {a : Int} {As : List zV} {vs rest : List Value} (C0 : lw_At p s m meth c b L xs) (hm : (pos, i, k) ∈ lwL) (hs : s.heap.size = bb + 1) (hK : zKs D cA cN s) (hka : zKT a = (2, zoc k)) (h : zC k Q ((2, a) :: As) n M) (hQ : ∀ r n' M', Q r n' M' → n' = n) (hlen : (zspr ((2, a) :: As)).length ≤ zml k) (hA : zsr n ((2, a) :: As)) (hvs : As.map (zv bb) = vs) (hR : zRel bb D cA cN n M H) (hn : n = (cells : Int)) (hS : s.heap.size ≤ H.size) (hz : H.size ≤ s.heap.size + cells) (hl : ls.size = 4) (h8 : (rest.map fun v => v.category).sum ≤ 8) (hpar : (parseMethodDescriptor (zy k).desc).map (fun d => d.parameters.length) = some As.length) (hc : cells ≤ 600000 ∧ slots ≤ 7302250) (hdg : decode code pc = .ok (.invokevirtual i, 3)) :
    va_Run p l e room_1 s m #[Value.ref b] below meth c H locs cells slots (zmc k) (zms k) (F0 m pc ls (vs.reverse ++ .ref (bb + a.toNat) :: rest)) rest (zQc bb D cA cN k Q (Value.ref (bb + a.toNat) :: vs).toArray) (fun q => bb + 1 ≤ q) := by
  obtain ⟨hx, hb, hr, hml, hown, hts, hX, hbl, hlocks, hgv⟩ := C0
  obtain ⟨g1, g2, g3, g4, g5, g6, g7, g8⟩ := lwL_ok _ hm
  dsimp only at g1 g2 g3 g4 g5 g6 g7 g8
  have hz0 : ∀ r n' M', Q r n' M' → zal k n n' := fun r n' M' q => by
    unfold zal
    rw [g5]
    exact hQ r n' M' q
  have hMet := zC_Met (l := l) (b := bb) (D := D) (cA := cA) (cN := cN) g1 h hlen hA hz0 hR.1
  have hts' : ∀ w ∈ zwl, w.before #[Value.ref b] s = true := fun w hw => hts w (zwl_tb hw)
  have hin : (Cond.initialized (zy k).cls).before #[Value.ref b] s = true := by
    have := hts' _ (zinw_in (zoc k) (znm_in k g1).2.1)
    unfold zinw at this
    rwa [(znm_in k g1).1] at this
  have hw : (Cond.methodLink R_law i (zy k)).before #[Value.ref b] s = true := hts _ (lwL_in _ hm)
  have hi2 : (Cond.instanceMethod (zy k)).before #[Value.ref b] s = true := by
    have := hts' _ (znw_in k g1)
    unfold znw at this
    rwa [g2] at this
  have S : CallFix p m c code 4 s #[Value.ref b] zwl R_law := ⟨hx, hb, hml, hown, hts'⟩
  have ha : 0 < a := zKT_pos (by rw [hka]; exact (show (2 : Nat) ≠ 9 by decide))
  have han : a ≤ n := (hA (2, a) List.mem_cons_self).1.2
  have hroom : (zrm k).frames + 1 ≤ room_1.frames ∧ 8 + (zml k + 11) + (zrm k).locals ≤ room_1.locals := ⟨g7, g8⟩
  have cw : CallW room_1 s #[Value.ref b] R_law (zy k).cls i (zy k) (zb k) (zml k) (zrt0 k) (zwd k) (zrm k) (zmc k) (zms k) As.length :=
    ⟨callB_of As.length hts' (zwd_good g1) rfl rfl rfl hin hw ⟨(zcls_ne k g1).1, (zcls_ne k g1).2, hpar⟩ hroom, hi2, hts' _ (zsel_in g3)⟩
  have hrv := va_recv hK.1 hR.2.1 (zcls_at _ g4) (zobj (by omega) han hka)
  subst hvs
  have run := va_runV (e := e) (below := below) (meth := meth) (locs := locs) (cells := cells) (slots := slots) (As := As.map (zv bb)) (rest := rest) (b := bb + a.toNat) S hMet cw ⟨zPc_blind, by rw [← (znm_in k g1).1]; exact hrv, fun U hU hW => by
      have := lw_pre (As := (2, a) :: As) hs hK hR hn hS hz hU hW
      rw [List.map_cons, zv_ref bb ha] at this
      exact this⟩ (g := F0 m pc ls ((As.map (zv bb)).reverse ++ .ref (bb + a.toNat) :: rest)) rfl (by rw [List.length_map]) hl rfl (by show 2 * 0 + _ ≤ 8; omega) hdg (by rw [g5, g6]; exact ⟨hc.1, hc.2⟩)
  exact run
theorem lw_calli {pos : Nat} {a : Int} {As : List zV} {vs rest : List Value} (C0 : lw_At p s m meth c b L xs) (hm : (pos, i, k) ∈ lwL) (hrt : zrt k = 0) (hs : s.heap.size = bb + 1) (hK : zKs D cA cN s) (hka : zKT a = (2, zoc k)) (h : zC k Q ((2, a) :: As) n M) (hQ : ∀ r n' M', Q r n' M' → n' = n) (hlen : (zspr ((2, a) :: As)).length ≤ zml k) (hA : zsr n ((2, a) :: As)) (hvs : As.map (zv bb) = vs) (hR : zRel bb D cA cN n M H) (hn : n = (cells : Int)) (hS : va_S (fun q => bb + 1 ≤ q) s.heap H locs) (hl : ls.size = 4) (h8 : (rest.map fun v => v.category).sum ≤ 8) (hpar : (parseMethodDescriptor (zy k).desc).map (fun d => d.parameters.length) = some As.length) (hc : cells ≤ 600000 ∧ slots ≤ 7302250) (hdg : decode code pc = .ok (.invokevirtual i, 3))
    (kk : ∀ (r : Int32) (M' : zM) (H1 : Heap) (locs1 : List Loc), Q r.toInt n M' → zRel bb D cA cN n M' H1 → va_S (fun q => bb + 1 ≤ q) s.heap H1 locs1 → W p l e room_1 s m #[Value.ref b] below meth c H1 locs1 cells slots Z (F0 m (pc + 3) ls (.int r :: rest))) :
    W p l e room_1 s m #[Value.ref b] below meth c H locs cells slots Z (F0 m pc ls (vs.reverse ++ .ref (bb + a.toNat) :: rest)) := by
  refine zsize (fun hz => ?_)
  have hrun := lw_runV (l := l) (e := e) (below := below) (locs := locs) (slots := slots) C0 hm hs hK hka h hQ hlen hA hvs hR hn hS.1 hz hl h8 hpar hc hdg
  obtain ⟨g1, g2, g3, g4, g5, g6, g7, g8⟩ := lwL_ok _ hm
  dsimp only at g5 g6
  unfold zQc at hrun
  rw [hrt] at hrun
  refine va_calli hrun hS (fun q _ h => h) (fun q h => h) (fun x u t H1 locs1 ht _ hp hB _ _ hS1 => ?_)
  obtain ⟨n', M'⟩ := u
  dsimp only at hp hB
  rw [ht] at hB
  have e1 := hQ _ _ _ hp
  subst e1
  have := kk x M' H1 locs1 hp hB hS1
  rw [g5, g6]; exact this
theorem lw_calll {pos : Nat} {a : Int} {As : List zV} {vs rest : List Value} (C0 : lw_At p s m meth c b L xs) (hm : (pos, i, k) ∈ lwL) (hrt : zrt k = 1) (hs : s.heap.size = bb + 1) (hK : zKs D cA cN s) (hka : zKT a = (2, zoc k)) (h : zC k Q ((2, a) :: As) n M) (hQ : ∀ r n' M', Q r n' M' → n' = n) (hlen : (zspr ((2, a) :: As)).length ≤ zml k) (hA : zsr n ((2, a) :: As)) (hvs : As.map (zv bb) = vs) (hR : zRel bb D cA cN n M H) (hn : n = (cells : Int)) (hS : va_S (fun q => bb + 1 ≤ q) s.heap H locs) (hl : ls.size = 4) (h8 : (rest.map fun v => v.category).sum ≤ 8) (hpar : (parseMethodDescriptor (zy k).desc).map (fun d => d.parameters.length) = some As.length) (hc : cells ≤ 600000 ∧ slots ≤ 7302250) (hdg : decode code pc = .ok (.invokevirtual i, 3))
    (kk : ∀ (r : Int64) (M' : zM) (H1 : Heap) (locs1 : List Loc), Q r.toInt n M' → zRel bb D cA cN n M' H1 → va_S (fun q => bb + 1 ≤ q) s.heap H1 locs1 → W p l e room_1 s m #[Value.ref b] below meth c H1 locs1 cells slots Z (F0 m (pc + 3) ls (.long r :: rest))) :
    W p l e room_1 s m #[Value.ref b] below meth c H locs cells slots Z (F0 m pc ls (vs.reverse ++ .ref (bb + a.toNat) :: rest)) := by
  refine zsize (fun hz => ?_)
  have hrun := lw_runV (l := l) (e := e) (below := below) (locs := locs) (slots := slots) C0 hm hs hK hka h hQ hlen hA hvs hR hn hS.1 hz hl h8 hpar hc hdg
  obtain ⟨g1, g2, g3, g4, g5, g6, g7, g8⟩ := lwL_ok _ hm
  dsimp only at g5 g6
  unfold zQc at hrun
  rw [hrt] at hrun
  refine va_calll hrun hS (fun q _ h => h) (fun q h => h) (fun x u t H1 locs1 ht _ hp hB _ _ hS1 => ?_)
  obtain ⟨n', M'⟩ := u
  dsimp only at hp hB
  rw [ht] at hB
  have e1 := hQ _ _ _ hp
  subst e1
  have := kk x M' H1 locs1 hp hB hS1
  rw [g5, g6]; exact this
/-- one of the script's ints -/
abbrev lwA (P : Nat) (d : Int) : Prop := decode code P = .ok (.aload_n 0, 1) ∧ decode code (P + 1) = .ok (.iload_n 3, 1) ∧ decode code (P + 2) = .ok (.iconst d, 1) ∧ decode code (P + 3) = .ok (.iadd, 1) ∧ decode code (P + 4) = .ok (.iaload, 1)
theorem lw_ld {P : Nat} {d : Int} {dv x3 : Int32} {rest : List Value} {q1 q2 : Nat} (C0 : lw_At p s m meth c b L xs) (hs : s.heap.size = bb + 1) (hd : lwA P d) (hdv : Int32.ofInt d = dv) (hl : lv_has ls 4 [(0, .ref b), (1, .ref q1), (2, .ref q2), (3, .int x3)]) (hin : vp_in (x3 + dv) L) (hS : va_S (fun q => bb + 1 ≤ q) s.heap H locs)
    (kk : W p l e room_1 s m #[Value.ref b] below meth c H locs cells slots Z (F0 m (P + 5) ls (.int (xs (x3 + dv).toNatClampNeg) :: rest))) :
    W p l e room_1 s m #[Value.ref b] below meth c H locs cells slots Z (F0 m P ls rest) := by
  obtain ⟨hx, hb, hr, hml, hown, hts, hX, hbl, hlocks, hgv⟩ := C0
  obtain ⟨d0, d1, d2, d3, d4⟩ := hd
  have hbA : ¬ (fun q : Nat => bb + 1 ≤ q) b := by show ¬ bb + 1 ≤ b; omega
  refine lv_aload_n hx hb d0 rfl (lv_at hl 0 rfl) ?_
  refine lv_iload_n hx hb d1 rfl (lv_at hl 3 rfl) ?_
  refine lv_iconst (v := dv) hx hb d2 hdv ?_
  refine lv_iadd hx hb d3 ?_
  exact va_sld hx hb hX hbl hbA hS hin d4 kk
theorem zv_i (v : Int32) : zv bb (0, v.toInt) = .int v := by show Value.int (Int32.ofInt v.toInt) = _; rw [Int32.ofInt_toInt]
end LAW
