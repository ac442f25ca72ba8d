/-! the law: loop and start -/
section LAW3
variable {p : Program} {l : Launch} {e : Env} {s : State} {m : MethodId} {below : List Frame} {meth : Method} {c : Code} {b L bb : Nat} {xs : Nat → Int32} {D : va_G} {cA cN : ClassId} {n : Int} {M : zM} {H : Heap} {locs : List Loc} {cells slots : Nat} {ls : Array Slot} {Z : State → Prop} {k i pc : Nat} {Q : zQ}
theorem lw_callI {a : Int} {rest : List Value} (C0 : lw_At p s m meth c b L xs) (g1 : k < 166) (hwl : Cond.methodLink R_law i (zy k) ∈ lw_tbl) (hst : zsta k = false ∧ (zy k).name = "<init>" ∧ zrt0 k = none ∧ zrt k = 2) (hrm : zfr k + 1 ≤ 9 ∧ 8 + (zml k + 11) + zlo k ≤ 334) (hpar : (parseMethodDescriptor (zy k).desc).map (fun d => d.parameters.length) = some 0) (hs : s.heap.size = bb + 1) (hK : zKs D cA cN s) (ha : 0 < a ∧ a ≤ n) (h : zC k Q [(2, a)] n M) (hQ : ∀ r n' M', Q r n' M' → zal k n n') (hlen : (zspr [(2, a)]).length ≤ zml k) (hR : zRel bb D cA cN n M H) (hn : n = (cells : Int)) (hS : va_S (fun q => bb + 1 ≤ q) s.heap H locs) (hl : ls.size = 4) (h8 : (rest.map fun v => v.category).sum ≤ 8) (hc : cells + zmc k ≤ 600000 ∧ slots + zms k ≤ 7302250) (hdg : decode code pc = .ok (.invokespecial i, 3))
    (kk : ∀ (n' : Int) (M' : zM) (H1 : Heap) (locs1 : List Loc), Q 0 n' M' → zRel bb D cA cN n' M' H1 → va_S (fun q => bb + 1 ≤ q) s.heap H1 locs1 → W p l e room_1 s m #[Value.ref b] below meth c H1 locs1 (cells + zmc k) (slots + zms k) Z (F0 m (pc + 3) ls rest)) :
    W p l e room_1 s m #[Value.ref b] below meth c H locs cells slots Z (F0 m pc ls (.ref (bb + a.toNat) :: rest)) := by
  obtain ⟨hx, hb, hr, hml, hown, hts, hX, hbl, hlocks, hgv⟩ := C0
  refine zsize (fun hz => ?_)
  have hA : zsr n [(2, a)] := zsr_2 (by omega) zsr_0
  have hMet := zC_Met (l := l) (b := bb) (D := D) (cA := cA) (cN := cN) g1 h hlen hA hQ hR.1
  have hts' : ∀ w ∈ zwl, w.before #[Value.ref b] s = true := fun w hw => hts w (zwl_tb hw)
  have hin : (Cond.initialized (zy k).cls).before #[Value.ref b] s = true := by
    have := hts' _ (zinw_in (zoc k) (znm_in k g1).2.1)
    unfold zinw at this
    rwa [(znm_in k g1).1] at this
  have hi2 : (Cond.instanceMethod (zy k)).before #[Value.ref b] s = true := by
    have := hts' _ (znw_in k g1)
    unfold znw at this
    rwa [hst.1] at this
  have S : CallFix p m c code 4 s #[Value.ref b] zwl R_law := ⟨hx, hb, hml, hown, hts'⟩
  have hwd : zwd k = Cond.code (zy k) (zb k) (zml k) none :: zwl := by unfold zwd; rw [hst.2.2.1]
  have hp2 : PreS s H (zPc bb D cA cN [(2, a)] n M) [.ref (bb + a.toNat)] := ⟨zPc_blind, fun U hU hW => by
    have := lw_pre (As := [(2, a)]) hs hK hR hn hS.1 hz hU hW
    rw [List.map_cons, zv_ref bb ha.1] at this
    exact this⟩
  have hroom : (zrm k).frames + 1 ≤ room_1.frames ∧ 8 + (zml k + 11) + (zrm k).locals ≤ room_1.locals := hrm
  have run := va_runI (e := e) (below := below) (meth := meth) (locs := locs) (cells := cells) (slots := slots) (As := []) (rest := rest) (b := bb + a.toNat) (n := 0) S hMet ⟨callB_of 0 hts' (zwd_good g1) hwd rfl rfl hin (hts _ hwl) ⟨(zcls_ne k g1).1, (zcls_ne k g1).2, hpar⟩ hroom, hst.2.1, hi2⟩ hp2 (g := F0 m pc ls (.ref (bb + a.toNat) :: rest)) rfl rfl hl rfl (by show 2 * 0 + _ ≤ 8; omega) hdg hc
  unfold zQc at run
  rw [hst.2.2.2] at run
  refine va_callv run hS (fun q _ h => h) (fun q h => h) (fun u t H1 locs1 ht _ hp hB _ _ hS1 => ?_)
  obtain ⟨n', M'⟩ := u
  dsimp only at hp hB
  rw [ht] at hB
  exact kk n' M' H1 locs1 hp hB hS1
theorem lw_new {ci : Nat} {rest : List Value} (C0 : lw_At p s m meth c b L xs) (hs : s.heap.size = bb + 1) (hK : zKs D cA cN s) (hc : ci < 10) (hw : Cond.classLink R_law i (zcnm ci) ∈ lw_tbl) (hk : zKT (n + 1) = (2, ci)) (hR : zRel bb D cA cN n M H) (hn : n = (cells : Int)) (hS : va_S (fun q => bb + 1 ≤ q) s.heap H locs) (hcc : cells + 1 ≤ 600000 ∧ slots + znf ci ≤ 7302250) (hdg : decode code pc = .ok (.new i, 3))
    (kk : ∀ (H1 : Heap), zRel bb D cA cN (n + 1) M H1 → va_S (fun q => bb + 1 ≤ q) s.heap H1 locs → W p l e room_1 s m #[Value.ref b] below meth c H1 locs (cells + 1) (slots + znf ci) Z (F0 m (pc + 3) ls (.ref (bb + (n + 1).toNat) :: rest))) :
    W p l e room_1 s m #[Value.ref b] below meth c H locs cells slots Z (F0 m pc ls rest) := by
  obtain ⟨hx, hb, hr, hml, hown, hts, hX, hbl, hlocks, hgv⟩ := C0
  obtain ⟨r1, r2, r3, r4⟩ := hR
  have hts' : ∀ w ∈ zwl, w.before #[Value.ref b] s = true := fun w hw => hts w (zwl_tb hw)
  have hA : ∀ q, s.heap.size ≤ q → bb + 1 ≤ q := fun q hq => by omega
  have hfs : ∀ j, j < znf ci → defaultValue (zty ci j) = vp_V ((List.range (znf ci)).map (fun (j : Nat) => zv bb (zft ci j, 0))) j := by
    intro j hj
    have hd := zdt_ok ci hc j hj
    rw [zdef bb (by rw [hd]; exact zft_lt ci j), hd]
    unfold vp_V
    rw [List.getD_eq_getElem?_getD, List.getElem?_map, List.getElem?_range hj]
    rfl
  refine va_new hx hb hts' (zlay_in ci hc) (zty ci) (zty_ok ci hc) hown (hts _ hw) (hts' _ (zinst_in ci hc)) (hts' _ (zinw_in ci (by omega))) hK.1 r2 zws_D hS hA (zcls_at ci hc) hfs hcc.1 hcc.2 hdg (fun q H1 hP1 hD1 hS1 => ?_)
  refine zsize (fun hz => ?_)
  have hq := zfresh (n0 := 0) r1 hP1 hD1 hz (by rw [hs]; omega) (by omega)
  subst hq
  have hM : M (n + 1) = fun _ => 0 := by funext j; exact r4 (n + 1) j (by omega)
  have hE : zE bb cA cN (zKT (n + 1)) (M (n + 1)) = .inr (ci, (List.range (znf ci)).map (fun (j : Nat) => zv bb (zft ci j, 0))) := by rw [hk, hM]; rfl
  rw [← hE] at hP1
  refine kk H1 ⟨by omega, by rw [zws_push r1]; exact hP1, ?_, fun a j h => r4 a j (by omega)⟩ hS1
  intro a j h1 h2 h3
  by_cases q2 : a ≤ n
  · exact zr_up (by omega) (r3 a j h1 q2 h3)
  · rw [r4 a j (by omega)]
    exact zr_0 (by omega) _
theorem d_law_18 : decode code 18 = .ok (.iload_n 3, 1) ∧ decode code 19 = .ok (.aload_n 0, 1) ∧ decode code 20 = .ok (.arraylength, 1) ∧ decode code 21 = .ok (.iconst 3, 1) ∧ decode code 22 = .ok (.isub, 1) ∧ decode code 23 = .ok (.if_icmp .gt 686, 3) ∧ decode code 26 = .ok (.aload_n 0, 1) ∧ decode code 27 = .ok (.iload_n 3, 1) ∧ decode code 28 = .ok (.iaload, 1) ∧ decode code 29 = .ok (.bipush 31, 2) ∧ decode code 31 = .ok (.iand, 1) ∧ decode code 32 = .ok (.tableswitch 671 0 22 #[108, 131, 144, 157, 190, 223, 256, 289, 312, 335, 358, 381, 414, 448, 481, 504, 517, 551, 584, 597, 621, 634, 657], 108) ∧ decode code 703 = .ok (.iinc 3 3, 3) ∧ decode code 706 = .ok (.goto (-688), 3) ∧ decode code 709 = .ok (.iconst 1, 1) ∧ decode code 710 = .ok (.ireturn, 1) := by decide +kernel
theorem d_law_0 : decode code 0 = .ok (.new 7, 3) ∧ decode code 3 = .ok (.dup, 1) ∧ decode code 4 = .ok (.invokespecial 9, 3) ∧ decode code 7 = .ok (.astore_n 1, 1) ∧ decode code 8 = .ok (.new 10, 3) ∧ decode code 11 = .ok (.dup, 1) ∧ decode code 12 = .ok (.invokespecial 12, 3) ∧ decode code 15 = .ok (.astore_n 2, 1) ∧ decode code 16 = .ok (.iconst 0, 1) ∧ decode code 17 = .ok (.istore_n 3, 1) := by decide +kernel
set_option maxHeartbeats 4000000 in
theorem law_loop (hL : L ≤ 1536) (C0 : lw_At p s m meth c b L xs) (hs : s.heap.size = bb + 1) (hK : zKs D cA cN s) :
    ∀ (f i : Nat) (M : zM) (H : Heap) (locs : List Loc) (ls : Array Slot), i ≤ L + 3 → L + 1 ≤ i + f → lv_has ls 4 [(0, .ref b), (1, .ref (bb + 1)), (2, .ref (bb + 123)), (3, .int (Int32.ofInt (i : Int)))] → zRel bb D cA cN 158 M H → va_S (fun q => bb + 1 ≤ q) s.heap H locs → zLay M → Inv M → lwW p l e s m below meth c b H locs (lw_Z below #[Value.ref b] s) (F0 m 18 ls []) := by
  obtain ⟨hx, hb, hr, hml, hown, hts, hX, hbl, hlocks, hgv⟩ := id C0
  obtain ⟨e1, e2, e3, e4, e5, e6, e7, e8, e9, e10, e11, e12, e13, e14, e15, e16⟩ := d_law_18
  have hbA : ¬ (fun q : Nat => bb + 1 ≤ q) b := by show ¬ bb + 1 ≤ b; omega
  have hsub : Int32.ofNat L - 3 = Int32.ofInt ((L : Int) - 3) := by
    have := z32_sub (L : Int) 3
    rw [zw_id (by omega)] at this
    exact this.symm
  intro f
  induction f with
  | zero =>
    intro i M H locs ls h1 h2 hl hR hS hLay hI
    refine lv_iload_n hx hb e1 rfl (lv_at hl 3 rfl) ?_
    refine lv_aload_n hx hb e2 rfl (lv_at hl 0 rfl) ?_
    refine va_slen hx hb hX hbl hbA hS e3 ?_
    refine lv_iconst (v := 3) hx hb e4 rfl ?_
    refine lv_isub hx hb e5 ?_
    refine lv_icmp_gt (tgt := 709) hx hb e6 (by decide) (fun _ => ?_) (fun z => ?_)
    · refine lv_iconst (v := 1) hx hb e15 rfl ?_
      refine va_forget (fun q hq => by have := hS.2.2 q hq; omega) ?_
      refine W.widen (k := 600000) (n := 7302250) (by decide) (by decide) ?_
      exact lw_ret hx hb hr hlocks e16
    · exfalso
      rw [hsub, z32_lt (by omega) (by omega)] at z
      omega
  | succ f ih =>
    intro i M H locs ls h1 h2 hl hR hS hLay hI
    refine lv_iload_n hx hb e1 rfl (lv_at hl 3 rfl) ?_
    refine lv_aload_n hx hb e2 rfl (lv_at hl 0 rfl) ?_
    refine va_slen hx hb hX hbl hbA hS e3 ?_
    refine lv_iconst (v := 3) hx hb e4 rfl ?_
    refine lv_isub hx hb e5 ?_
    refine lv_icmp_gt (tgt := 709) hx hb e6 (by decide) (fun _ => ?_) (fun z => ?_)
    · refine lv_iconst (v := 1) hx hb e15 rfl ?_
      refine va_forget (fun q hq => by have := hS.2.2 q hq; omega) ?_
      refine W.widen (k := 600000) (n := 7302250) (by decide) (by decide) ?_
      exact lw_ret hx hb hr hlocks e16
    · rw [hsub, z32_lt (by omega) (by omega)] at z
      have hi0 : vp_in (Int32.ofInt (i : Int)) L := (zcl_n (by omega) (by omega) (by omega)).1
      have hi1 : vp_in (Int32.ofInt (i : Int) + 1) L := by
        rw [show (1 : Int32) = Int32.ofInt 1 from rfl, ← Int32.ofInt_add]
        exact (zcl_n (by omega) (by omega) (by omega)).1
      have hi2 : vp_in (Int32.ofInt (i : Int) + 2) L := by
        rw [show (2 : Int32) = Int32.ofInt 2 from rfl, ← Int32.ofInt_add]
        exact (zcl_n (by omega) (by omega) (by omega)).1
      have K : lwK p l e s m below meth c b bb D cA cN (lw_Z below #[Value.ref b] s) ls := fun M' H1 locs1 R1 S1 L1 I1 => by
        refine lv_iinc (v := Int32.ofInt ((i + 3 : Nat) : Int)) (lv' := [(3, .int (Int32.ofInt ((i + 3 : Nat) : Int))), (0, .ref b), (1, .ref (bb + 1)), (2, .ref (bb + 123))]) hx hb e13 hl (k := 3) rfl (by rw [← Int32.ofInt_add]; rfl) (by decide) rfl (fun ls' hl' => ?_)
        refine lv_goto (tgt := 18) hx hb e14 (by decide) ?_
        exact ih (i + 3) M' H1 locs1 ls' (by omega) (by omega) (lv_sub hl' [1, 2, 3, 0] rfl) R1 S1 L1 I1
      refine lv_aload_n hx hb e7 rfl (lv_at hl 0 rfl) ?_
      refine lv_iload_n hx hb e8 rfl (lv_at hl 3 rfl) ?_
      refine va_sld hx hb hX hbl hbA hS hi0 e9 ?_
      refine lv_bipush (v := 31) hx hb e10 rfl ?_
      refine lv_iand hx hb e11 ?_
      generalize hxx : xs (Int32.ofInt (i : Int)).toNatClampNeg &&& 31 = x
      by_cases out : x.toInt < 0 ∨ 22 < x.toInt
      · exact lv_tableOut (tgt := 703) hx hb e12 out (by decide) (K M H locs hR hS hLay hI)
      · have cs : x.toInt = 0 ∨ x.toInt = 1 ∨ x.toInt = 2 ∨ x.toInt = 3 ∨ x.toInt = 4 ∨ x.toInt = 5 ∨ x.toInt = 6 ∨ x.toInt = 7 ∨ x.toInt = 8 ∨ x.toInt = 9 ∨ x.toInt = 10 ∨ x.toInt = 11 ∨ x.toInt = 12 ∨ x.toInt = 13 ∨ x.toInt = 14 ∨ x.toInt = 15 ∨ x.toInt = 16 ∨ x.toInt = 17 ∨ x.toInt = 18 ∨ x.toInt = 19 ∨ x.toInt = 20 ∨ x.toInt = 21 ∨ x.toInt = 22 := by omega
        have u1 : ¬ x.toInt < 0 := by omega
        have u2 : ¬ 22 < x.toInt := by omega
        rcases cs with q | q | q | q | q | q | q | q | q | q | q | q | q | q | q | q | q | q | q | q | q | q | q
        · exact lv_tableIn (off := 108) (tgt := 140) hx hb e12 u1 u2 (by rw [q]; rfl) (by decide) (lw_c0 C0 hs hK hl hi1 hLay hI hR hS K)
        · exact lv_tableIn (off := 131) (tgt := 163) hx hb e12 u1 u2 (by rw [q]; rfl) (by decide) (lw_c1 C0 hs hK hl hLay hI hR hS K)
        · exact lv_tableIn (off := 144) (tgt := 176) hx hb e12 u1 u2 (by rw [q]; rfl) (by decide) (lw_c2 C0 hs hK hl hLay hI hR hS K)
        · exact lv_tableIn (off := 157) (tgt := 189) hx hb e12 u1 u2 (by rw [q]; rfl) (by decide) (lw_c3 C0 hs hK hl hi1 hi2 hLay hI hR hS K)
        · exact lv_tableIn (off := 190) (tgt := 222) hx hb e12 u1 u2 (by rw [q]; rfl) (by decide) (lw_c4 C0 hs hK hl hi1 hi2 hLay hI hR hS K)
        · exact lv_tableIn (off := 223) (tgt := 255) hx hb e12 u1 u2 (by rw [q]; rfl) (by decide) (lw_c5 C0 hs hK hl hi1 hi2 hLay hI hR hS K)
        · exact lv_tableIn (off := 256) (tgt := 288) hx hb e12 u1 u2 (by rw [q]; rfl) (by decide) (lw_c6 C0 hs hK hl hi1 hi2 hLay hI hR hS K)
        · exact lv_tableIn (off := 289) (tgt := 321) hx hb e12 u1 u2 (by rw [q]; rfl) (by decide) (lw_c7 C0 hs hK hl hi1 hLay hI hR hS K)
        · exact lv_tableIn (off := 312) (tgt := 344) hx hb e12 u1 u2 (by rw [q]; rfl) (by decide) (lw_c8 C0 hs hK hl hi1 hLay hI hR hS K)
        · exact lv_tableIn (off := 335) (tgt := 367) hx hb e12 u1 u2 (by rw [q]; rfl) (by decide) (lw_c9 C0 hs hK hl hi1 hLay hI hR hS K)
        · exact lv_tableIn (off := 358) (tgt := 390) hx hb e12 u1 u2 (by rw [q]; rfl) (by decide) (lw_c10 C0 hs hK hl hi1 hLay hI hR hS K)
        · exact lv_tableIn (off := 381) (tgt := 413) hx hb e12 u1 u2 (by rw [q]; rfl) (by decide) (lw_c11 C0 hs hK hl hi1 hi2 hLay hI hR hS K)
        · exact lv_tableIn (off := 414) (tgt := 446) hx hb e12 u1 u2 (by rw [q]; rfl) (by decide) (lw_c12 C0 hs hK hl hi1 hi2 hLay hI hR hS K)
        · exact lv_tableIn (off := 448) (tgt := 480) hx hb e12 u1 u2 (by rw [q]; rfl) (by decide) (lw_c13 C0 hs hK hl hi1 hi2 hLay hI hR hS K)
        · exact lv_tableIn (off := 481) (tgt := 513) hx hb e12 u1 u2 (by rw [q]; rfl) (by decide) (lw_c14 C0 hs hK hl hi1 hLay hI hR hS K)
        · exact lv_tableIn (off := 504) (tgt := 536) hx hb e12 u1 u2 (by rw [q]; rfl) (by decide) (lw_c15 C0 hs hK hl hLay hI hR hS K)
        · exact lv_tableIn (off := 517) (tgt := 549) hx hb e12 u1 u2 (by rw [q]; rfl) (by decide) (lw_c16 C0 hs hK hl hi1 hi2 hLay hI hR hS K)
        · exact lv_tableIn (off := 551) (tgt := 583) hx hb e12 u1 u2 (by rw [q]; rfl) (by decide) (lw_c17 C0 hs hK hl hi1 hi2 hLay hI hR hS K)
        · exact lv_tableIn (off := 584) (tgt := 616) hx hb e12 u1 u2 (by rw [q]; rfl) (by decide) (lw_c18 C0 hs hK hl hLay hI hR hS K)
        · exact lv_tableIn (off := 597) (tgt := 629) hx hb e12 u1 u2 (by rw [q]; rfl) (by decide) (lw_c19 C0 hs hK hl hi1 hLay hI hR hS K)
        · exact lv_tableIn (off := 621) (tgt := 653) hx hb e12 u1 u2 (by rw [q]; rfl) (by decide) (lw_c20 C0 hs hK hl hLay hI hR hS K)
        · exact lv_tableIn (off := 634) (tgt := 666) hx hb e12 u1 u2 (by rw [q]; rfl) (by decide) (lw_c21 C0 hs hK hl hi1 hLay hI hR hS K)
        · exact lv_tableIn (off := 657) (tgt := 689) hx hb e12 u1 u2 (by rw [q]; rfl) (by decide) (lw_c22 C0 hs hK hl hLay hI hR hS K)
end LAW3
theorem zal_67 : zal 67 1 122 := ⟨rfl, by decide +kernel⟩
theorem zal_97 : zal 97 123 158 := ⟨rfl, by decide +kernel⟩
theorem zms_67 : 0 + znf 8 + zms 67 + znf 9 + zms 97 = 5866 := by decide +kernel
theorem zst_67 : (zsta 67 = false ∧ (zy 67).name = "<init>" ∧ zrt0 67 = none ∧ zrt 67 = 2) ∧ (zsta 97 = false ∧ (zy 97).name = "<init>" ∧ zrt0 97 = none ∧ zrt 97 = 2) ∧ ((parseMethodDescriptor (zy 67).desc).map (fun d => d.parameters.length) = some 0) ∧ ((parseMethodDescriptor (zy 97).desc).map (fun d => d.parameters.length) = some 0) := by decide +kernel
set_option maxHeartbeats 4000000 in
theorem whole_start {p : Program} {e : Env} {s : State} {m : MethodId} {below : List Frame} {meth : Method} {c : Code} (l : Launch) (hflags : l.flags = flags0) {b L : Nat} {xs : Nat → Int32} (hL : L ≤ 1536) (C0 : lw_At p s m meth c b L xs) : W p l e room_1 s m #[Value.ref b] below meth c s.heap [] 0 0 (lw_Z below #[Value.ref b] s) (entryFrame m ([Value.ref b] : List Value).toArray 4) := by
  obtain ⟨hx, hb, hr, hml, hown, hts, hX, hbl, hlocks, hgv⟩ := id C0
  obtain ⟨D, cA, cN, hK⟩ := zKs_start hts
  obtain ⟨bb, hs⟩ : ∃ bb, s.heap.size = bb + 1 := ⟨s.heap.size - 1, by omega⟩
  obtain ⟨M1, hM1, hM2⟩ := boot_ex
  obtain ⟨e1, e2, e3, e4, e5, e6, e7, e8, e9, e10⟩ := d_law_0
  have hS : va_S (fun q : Nat => bb + 1 ≤ q) s.heap s.heap [] := va_S.rf
  have hR : zRel bb D cA cN 0 (fun _ _ => 0) s.heap := ⟨by omega, fun k q h => by (have := (zws_get h).1; omega), fun a j h1 h2 => by omega, fun _ _ _ => rfl⟩
  have hl := lv_entry ([.ref b]) (n := 4) (Nat.le_of_ble_eq_true rfl)
  rw [lg_entry_eq]
  generalize (lg_sl ([.ref b]) ++ List.replicate (4 - (lg_sl ([.ref b])).length) Slot.unset).toArray = ls at hl ⊢
  have hl : lv_has ls 4 [(0, .ref b)] := hl
  refine lw_new (ci := 8) (n := 0) C0 hs hK (by decide) lwI_in.2.2.1 rfl hR rfl hS (by decide) e1 (fun H1 R1 S1 => ?_)
  refine lv_dup hx hb e2 rfl ?_
  refine lw_callI (k := 67) (a := 1) (n := 1) (Q := fun _ n' M' => n' = 122 ∧ M' = M1) C0 (by decide) lwI_in.1 zst_67.1 lwI_ok.1 zst_67.2.2.1 hs hK (by omega) (hM1 _ ⟨rfl, rfl⟩) (fun r n' M' q => by (rw [q.1]; exact zal_67)) (Nat.le_of_ble_eq_true rfl) R1 rfl S1 hl.1 (by show 1 ≤ 8; decide) (by decide +kernel) e3 (fun n' M' H2 locs2 q R2 S2 => ?_)
  obtain ⟨rfl, rfl⟩ := q
  refine lv_astore_n (lv' := [(1, .ref (bb + 1)), (0, .ref b)]) hx hb e4 rfl hl (by decide) rfl (fun ls hl => ?_)
  refine lw_new (ci := 9) (n := 122) C0 hs hK (by decide) lwI_in.2.2.2 rfl R2 (by decide +kernel) S2 (by decide +kernel) e5 (fun H3 R3 S3 => ?_)
  refine lv_dup hx hb e6 rfl ?_
  refine lw_callI (k := 97) (a := 123) (n := 123) (Q := fun _ n' M' => n' = 158 ∧ zLay M' ∧ Inv M') C0 (by decide) lwI_in.2.1 zst_67.2.1 lwI_ok.2.1 zst_67.2.2.2 hs hK (by omega) (hM2 _ (fun M' a1 a2 => ⟨rfl, a1, a2⟩)) (fun r n' M' q => by (rw [q.1]; exact zal_97)) (Nat.le_of_ble_eq_true rfl) R3 (by decide +kernel) S3 hl.1 (by show 1 ≤ 8; decide) (by decide +kernel) e7 (fun n' M' H4 locs4 q R4 S4 => ?_)
  obtain ⟨rfl, hLay, hI⟩ := q
  refine lv_astore_n (lv' := [(2, .ref (bb + 123)), (1, .ref (bb + 1)), (0, .ref b)]) hx hb e8 rfl hl (by decide) rfl (fun ls hl => ?_)
  refine lv_iconst (v := 0) hx hb e9 rfl ?_
  refine lv_istore_n (lv' := [(3, .int 0), (2, .ref (bb + 123)), (1, .ref (bb + 1)), (0, .ref b)]) hx hb e10 rfl hl (by decide) rfl (fun ls hl => ?_)
  rw [zms_67]
  rw [show 0 + 1 + zmc 67 + 1 + zmc 97 = 158 by decide +kernel]
  exact law_loop hL C0 hs hK (L + 1) 0 M' H4 locs4 ls (by omega) (by omega) (lv_sub hl [3, 2, 1, 0] rfl) R4 S4 hLay hI
