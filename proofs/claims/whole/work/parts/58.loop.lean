/-! the law's loop -/
theorem head_le {L i : Nat} (hL : L ≤ 3072) (hi : i ≤ 512) (h : ¬ Int32.ofNat L - 6 < nI (6 * i)) : 6 * i + 6 ≤ L := by
  have h1 : (nI (6 * i)).toInt = ((6 * i : Nat) : Int) := nI_toInt (by omega)
  have h2 : (Int32.ofNat L).toInt = (L : Int) := nI_toInt (by omega)
  have h3 : (6 : Int32).toInt = 6 := rfl
  have h4 : (Int32.ofNat L - 6).toInt = (L : Int) - 6 := by
    rw [Int32.toInt_sub, h2, h3, Int.bmod_def]
    split <;> omega
  have h5 : ¬ (Int32.ofNat L - 6).toInt < (nI (6 * i)).toInt := fun z => h (Int32.lt_iff_toInt_lt.mpr z)
  rw [h1, h4] at h5
  omega
theorem nI_plus {L a j : Nat} {v : Int32} (hv : v = nI j) (h : a + j < L) (hL : L ≤ 3072) : vp_in (nI a + v) L := by
  rw [hv, show nI a + nI j = nI (a + j) from nI_add a j]
  exact nI_in h (by omega)
section LWC
variable {p : Program} {e : Env} {s : State} {m : MethodId} {below : List Frame} {meth : Method} {c : Code} {Q : State → Prop} {D : va_G} {ca : Nat → ClassId} {sa sd : Nat} {A : Nat → Prop} {b L : Nat} {xs : Nat → Int32} {a aR aT aH aD : Nat → Nat} {aK : Nat} {aI aC aS aY a8 : Nat → Nat} 
set_option maxHeartbeats 8000000 in
set_option maxRecDepth 100000 in
theorem lw_loop (l : Launch) (hL : L ≤ 3072) (C0 : LawC p s m meth c D ca sa sd A b L xs) (hend : ∀ (ls : Array Slot) (Hh : Heap) (locs : List Loc) (cn sn : Nat), cn ≤ 600000 → sn ≤ 7302250 → va_S A s.heap Hh locs → W p l e room_1 s m #[Value.ref b] below meth c Hh locs cn sn Q (F0 m 1271 ls [])) : ∀ n i : Nat, i + n = 513 → i ≤ 512 → ∀ ls : Array Slot, lv_has ls 4 [(0, .ref b), (1, .ref (a 0)), (2, .ref (a8 0)), (3, .int (nI (6 * i)))] → LwG p l e s m below meth c Q A b ls (Inv D ca A a aR aT aH aD aK aI aC aS aY a8) (64 + 8 * i) (20000 + 130 * i) 18 := by
  have C1 := C0
  obtain ⟨hx, hb, hr, hml, hown, hts, hX, hbl, hbA, hA, hK, hSX⟩ := C1
  intro n
  induction n with
  | zero => intro i hin hi; omega
  | succ n ih =>
    intro i hin hi ls hl Hh locs hI hS
    refine lv_iload_n hx hb dL_law_18 rfl (lv_at hl 3 rfl) ?_
    refine lv_aload_n hx hb dL_law_19 rfl (lv_at hl 0 rfl) ?_
    refine va_slen hx hb hX hbl hbA hS dL_law_20 ?_
    refine lv_bipush (v := (6)) hx hb dL_law_21 (by decide) ?_
    refine lv_isub hx hb dL_law_23 ?_
    refine lv_icmp_gt (tgt := 1271) hx hb dL_law_24 (by decide) (fun _ => hend _ _ _ _ _ (by omega) (by omega) hS) (fun hng => ?_)
    have hle : 6 * i + 6 ≤ L := head_le hL hi hng
    have kk : LwG p l e s m below meth c Q A b ls (Inv D ca A a aR aT aH aD aK aI aC aS aY a8) (64 + 8 * i + 8) (20000 + 130 * i + 130) 1265 := by
      intro H2 locs2 hI2 hS2
      refine lv_iinc (k := 3) (v := nI (6 * (i + 1))) (lv' := [(3, .int (nI (6 * (i + 1)))), (0, .ref b), (1, .ref (a 0)), (2, .ref (a8 0))]) hx hb dL_law_1265 hl rfl (by rw [show 6 * (i + 1) = 6 * i + 6 by omega, ← nI_add, show nI 6 = Int32.ofInt 6 from by decide]) (by decide) rfl (fun ls2 hl2 => ?_)
      refine lv_goto (tgt := 18) hx hb dL_law_1268 (by decide) ?_
      have g := ih (i + 1) (by omega) (by omega) ls2 (lv_sub hl2 [1, 2, 3, 0] rfl) H2 locs2 hI2 hS2
      rw [show 64 + 8 * (i + 1) = 64 + 8 * i + 8 by omega, show 20000 + 130 * (i + 1) = 20000 + 130 * i + 130 by omega] at g
      exact g
    have hf0 : 64 + 8 * i + 0 ≤ room_1.cells ∧ 20000 + 130 * i + 0 ≤ room_1.slots := by show 64 + 8 * i + 0 ≤ 600000 ∧ 20000 + 130 * i + 0 ≤ 7302250; omega
    have hf8 : 64 + 8 * i + 8 ≤ room_1.cells ∧ 20000 + 130 * i + 122 ≤ room_1.slots := by show 64 + 8 * i + 8 ≤ 600000 ∧ 20000 + 130 * i + 122 ≤ 7302250; omega
    have h1 : vp_in (nI (6 * i) + 1) L := nI_plus (j := 1) rfl (by omega) hL
    have h2 : vp_in (nI (6 * i) + 2) L := nI_plus (j := 2) rfl (by omega) hL
    have h3 : vp_in (nI (6 * i) + 3) L := nI_plus (j := 3) rfl (by omega) hL
    have h4 : vp_in (nI (6 * i) + 4) L := nI_plus (j := 4) rfl (by omega) hL
    have h5 : vp_in (nI (6 * i) + 5) L := nI_plus (j := 5) rfl (by omega) hL
    refine lv_aload_n hx hb dL_law_27 rfl (lv_at hl 0 rfl) ?_
    refine lv_iload_n hx hb dL_law_28 rfl (lv_at hl 3 rfl) ?_
    refine va_sld hx hb hX hbl hbA hS (nI_in (by omega) (by omega)) dL_law_29 ?_
    refine lv_bipush (v := (63)) hx hb dL_law_30 (by decide) ?_
    refine lv_iand hx hb dL_law_32 ?_
    generalize hy : xs (nI (6 * i)).toNatClampNeg &&& 63 = y
    by_cases hout : y.toInt < 0 ∨ 41 < y.toInt
    · refine lv_tableOut (tgt := 1265) hx hb dL_law_33 hout (by decide) ?_
      exact W.widen (Nat.le_add_right _ _) (Nat.le_add_right _ _) (kk _ _ hI hS)
    · have o1 : ¬ y.toInt < 0 := fun z => hout (Or.inl z)
      have o2 : ¬ 41 < y.toInt := fun z => hout (Or.inr z)
      obtain ⟨k, hk, hyk⟩ : ∃ k : Nat, k < 42 ∧ y.toInt = (k : Int) := ⟨y.toInt.toNat, by omega, by omega⟩
      rcases (show k = 0 ∨ k = 1 ∨ k = 2 ∨ k = 3 ∨ k = 4 ∨ k = 5 ∨ k = 6 ∨ k = 7 ∨ k = 8 ∨ k = 9 ∨ k = 10 ∨ k = 11 ∨ k = 12 ∨ k = 13 ∨ k = 14 ∨ k = 15 ∨ k = 16 ∨ k = 17 ∨ k = 18 ∨ k = 19 ∨ k = 20 ∨ k = 21 ∨ k = 22 ∨ k = 23 ∨ k = 24 ∨ k = 25 ∨ k = 26 ∨ k = 27 ∨ k = 28 ∨ k = 29 ∨ k = 30 ∨ k = 31 ∨ k = 32 ∨ k = 33 ∨ k = 34 ∨ k = 35 ∨ k = 36 ∨ k = 37 ∨ k = 38 ∨ k = 39 ∨ k = 40 ∨ k = 41 by omega) with rfl | rfl | rfl | rfl | rfl | rfl | rfl | rfl | rfl | rfl | rfl | rfl | rfl | rfl | rfl | rfl | rfl | rfl | rfl | rfl | rfl | rfl | rfl | rfl | rfl | rfl | rfl | rfl | rfl | rfl | rfl | rfl | rfl | rfl | rfl | rfl | rfl | rfl | rfl | rfl | rfl | rfl
      · exact lv_tableIn (off := 183) (tgt := 216) hx hb dL_law_33 o1 o2 (by rw [hyk]; rfl) (by decide) (lw_c0 l C0 hl h1 h2 h3 h4 h5 hf0 hf8 kk _ _ hI hS)
      · exact lv_tableIn (off := 216) (tgt := 249) hx hb dL_law_33 o1 o2 (by rw [hyk]; rfl) (by decide) (lw_c1 l C0 hl h1 h2 h3 h4 h5 hf0 hf8 kk _ _ hI hS)
      · exact lv_tableIn (off := 259) (tgt := 292) hx hb dL_law_33 o1 o2 (by rw [hyk]; rfl) (by decide) (lw_c2 l C0 hl h1 h2 h3 h4 h5 hf0 hf8 kk _ _ hI hS)
      · exact lv_tableIn (off := 292) (tgt := 325) hx hb dL_law_33 o1 o2 (by rw [hyk]; rfl) (by decide) (lw_c3 l C0 hl h1 h2 h3 h4 h5 hf0 hf8 kk _ _ hI hS)
      · exact lv_tableIn (off := 315) (tgt := 348) hx hb dL_law_33 o1 o2 (by rw [hyk]; rfl) (by decide) (lw_c4 l C0 hl h1 h2 h3 h4 h5 hf0 hf8 kk _ _ hI hS)
      · exact lv_tableIn (off := 378) (tgt := 411) hx hb dL_law_33 o1 o2 (by rw [hyk]; rfl) (by decide) (lw_c5 l C0 hl h1 h2 h3 h4 h5 hf0 hf8 kk _ _ hI hS)
      · exact lv_tableIn (off := 401) (tgt := 434) hx hb dL_law_33 o1 o2 (by rw [hyk]; rfl) (by decide) (lw_c6 l C0 hl h1 h2 h3 h4 h5 hf0 hf8 kk _ _ hI hS)
      · exact lv_tableIn (off := 434) (tgt := 467) hx hb dL_law_33 o1 o2 (by rw [hyk]; rfl) (by decide) (lw_c7 l C0 hl h1 h2 h3 h4 h5 hf0 hf8 kk _ _ hI hS)
      · exact lv_tableIn (off := 477) (tgt := 510) hx hb dL_law_33 o1 o2 (by rw [hyk]; rfl) (by decide) (lw_c8 l C0 hl h1 h2 h3 h4 h5 hf0 hf8 kk _ _ hI hS)
      · exact lv_tableIn (off := 500) (tgt := 533) hx hb dL_law_33 o1 o2 (by rw [hyk]; rfl) (by decide) (lw_c9 l C0 hl h1 h2 h3 h4 h5 hf0 hf8 kk _ _ hI hS)
      · exact lv_tableIn (off := 523) (tgt := 556) hx hb dL_law_33 o1 o2 (by rw [hyk]; rfl) (by decide) (lw_c10 l C0 hl h1 h2 h3 h4 h5 hf0 hf8 kk _ _ hI hS)
      · exact lv_tableIn (off := 556) (tgt := 589) hx hb dL_law_33 o1 o2 (by rw [hyk]; rfl) (by decide) (lw_c11 l C0 hl h1 h2 h3 h4 h5 hf0 hf8 kk _ _ hI hS)
      · exact lv_tableIn (off := 589) (tgt := 622) hx hb dL_law_33 o1 o2 (by rw [hyk]; rfl) (by decide) (lw_c12 l C0 hl h1 h2 h3 h4 h5 hf0 hf8 kk _ _ hI hS)
      · exact lv_tableIn (off := 642) (tgt := 675) hx hb dL_law_33 o1 o2 (by rw [hyk]; rfl) (by decide) (lw_c13 l C0 hl h1 h2 h3 h4 h5 hf0 hf8 kk _ _ hI hS)
      · exact lv_tableIn (off := 665) (tgt := 698) hx hb dL_law_33 o1 o2 (by rw [hyk]; rfl) (by decide) (lw_c14 l C0 hl h1 h2 h3 h4 h5 hf0 hf8 kk _ _ hI hS)
      · exact lv_tableIn (off := 688) (tgt := 721) hx hb dL_law_33 o1 o2 (by rw [hyk]; rfl) (by decide) (lw_c15 l C0 hl h1 h2 h3 h4 h5 hf0 hf8 kk _ _ hI hS)
      · exact lv_tableIn (off := 701) (tgt := 734) hx hb dL_law_33 o1 o2 (by rw [hyk]; rfl) (by decide) (lw_c16 l C0 hl h1 h2 h3 h4 h5 hf0 hf8 kk _ _ hI hS)
      · exact lv_tableIn (off := 724) (tgt := 757) hx hb dL_law_33 o1 o2 (by rw [hyk]; rfl) (by decide) (lw_c17 l C0 hl h1 h2 h3 h4 h5 hf0 hf8 kk _ _ hI hS)
      · exact lv_tableIn (off := 747) (tgt := 780) hx hb dL_law_33 o1 o2 (by rw [hyk]; rfl) (by decide) (lw_c18 l C0 hl h1 h2 h3 h4 h5 hf0 hf8 kk _ _ hI hS)
      · exact lv_tableIn (off := 770) (tgt := 803) hx hb dL_law_33 o1 o2 (by rw [hyk]; rfl) (by decide) (lw_c19 l C0 hl h1 h2 h3 h4 h5 hf0 hf8 kk _ _ hI hS)
      · exact lv_tableIn (off := 793) (tgt := 826) hx hb dL_law_33 o1 o2 (by rw [hyk]; rfl) (by decide) (lw_c20 l C0 hl h1 h2 h3 h4 h5 hf0 hf8 kk _ _ hI hS)
      · exact lv_tableIn (off := 816) (tgt := 849) hx hb dL_law_33 o1 o2 (by rw [hyk]; rfl) (by decide) (lw_c21 l C0 hl h1 h2 h3 h4 h5 hf0 hf8 kk _ _ hI hS)
      · exact lv_tableIn (off := 829) (tgt := 862) hx hb dL_law_33 o1 o2 (by rw [hyk]; rfl) (by decide) (lw_c22 l C0 hl h1 h2 h3 h4 h5 hf0 hf8 kk _ _ hI hS)
      · exact lv_tableIn (off := 852) (tgt := 885) hx hb dL_law_33 o1 o2 (by rw [hyk]; rfl) (by decide) (lw_c23 l C0 hl h1 h2 h3 h4 h5 hf0 hf8 kk _ _ hI hS)
      · exact lv_tableIn (off := 875) (tgt := 908) hx hb dL_law_33 o1 o2 (by rw [hyk]; rfl) (by decide) (lw_c24 l C0 hl h1 h2 h3 h4 h5 hf0 hf8 kk _ _ hI hS)
      · exact lv_tableIn (off := 888) (tgt := 921) hx hb dL_law_33 o1 o2 (by rw [hyk]; rfl) (by decide) (lw_c25 l C0 hl h1 h2 h3 h4 h5 hf0 hf8 kk _ _ hI hS)
      · exact lv_tableIn (off := 911) (tgt := 944) hx hb dL_law_33 o1 o2 (by rw [hyk]; rfl) (by decide) (lw_c26 l C0 hl h1 h2 h3 h4 h5 hf0 hf8 kk _ _ hI hS)
      · exact lv_tableIn (off := 934) (tgt := 967) hx hb dL_law_33 o1 o2 (by rw [hyk]; rfl) (by decide) (lw_c27 l C0 hl h1 h2 h3 h4 h5 hf0 hf8 kk _ _ hI hS)
      · exact lv_tableIn (off := 967) (tgt := 1000) hx hb dL_law_33 o1 o2 (by rw [hyk]; rfl) (by decide) (lw_c28 l C0 hl h1 h2 h3 h4 h5 hf0 hf8 kk _ _ hI hS)
      · exact lv_tableIn (off := 980) (tgt := 1013) hx hb dL_law_33 o1 o2 (by rw [hyk]; rfl) (by decide) (lw_c29 l C0 hl h1 h2 h3 h4 h5 hf0 hf8 kk _ _ hI hS)
      · exact lv_tableIn (off := 993) (tgt := 1026) hx hb dL_law_33 o1 o2 (by rw [hyk]; rfl) (by decide) (lw_c30 l C0 hl h1 h2 h3 h4 h5 hf0 hf8 kk _ _ hI hS)
      · exact lv_tableIn (off := 1016) (tgt := 1049) hx hb dL_law_33 o1 o2 (by rw [hyk]; rfl) (by decide) (lw_c31 l C0 hl h1 h2 h3 h4 h5 hf0 hf8 kk _ _ hI hS)
      · exact lv_tableIn (off := 1029) (tgt := 1062) hx hb dL_law_33 o1 o2 (by rw [hyk]; rfl) (by decide) (lw_c32 l C0 hl h1 h2 h3 h4 h5 hf0 hf8 kk _ _ hI hS)
      · exact lv_tableIn (off := 1052) (tgt := 1085) hx hb dL_law_33 o1 o2 (by rw [hyk]; rfl) (by decide) (lw_c33 l C0 hl h1 h2 h3 h4 h5 hf0 hf8 kk _ _ hI hS)
      · exact lv_tableIn (off := 1085) (tgt := 1118) hx hb dL_law_33 o1 o2 (by rw [hyk]; rfl) (by decide) (lw_c34 l C0 hl h1 h2 h3 h4 h5 hf0 hf8 kk _ _ hI hS)
      · exact lv_tableIn (off := 1118) (tgt := 1151) hx hb dL_law_33 o1 o2 (by rw [hyk]; rfl) (by decide) (lw_c35 l C0 hl h1 h2 h3 h4 h5 hf0 hf8 kk _ _ hI hS)
      · exact lv_tableIn (off := 1131) (tgt := 1164) hx hb dL_law_33 o1 o2 (by rw [hyk]; rfl) (by decide) (lw_c36 l C0 hl h1 h2 h3 h4 h5 hf0 hf8 kk _ _ hI hS)
      · exact lv_tableIn (off := 1145) (tgt := 1178) hx hb dL_law_33 o1 o2 (by rw [hyk]; rfl) (by decide) (lw_c37 l C0 hl h1 h2 h3 h4 h5 hf0 hf8 kk _ _ hI hS)
      · exact lv_tableIn (off := 1159) (tgt := 1192) hx hb dL_law_33 o1 o2 (by rw [hyk]; rfl) (by decide) (lw_c38 l C0 hl h1 h2 h3 h4 h5 hf0 hf8 kk _ _ hI hS)
      · exact lv_tableIn (off := 1182) (tgt := 1215) hx hb dL_law_33 o1 o2 (by rw [hyk]; rfl) (by decide) (lw_c39 l C0 hl h1 h2 h3 h4 h5 hf0 hf8 kk _ _ hI hS)
      · exact lv_tableIn (off := 1195) (tgt := 1228) hx hb dL_law_33 o1 o2 (by rw [hyk]; rfl) (by decide) (lw_c40 l C0 hl h1 h2 h3 h4 h5 hf0 hf8 kk _ _ hI hS)
      · exact lv_tableIn (off := 1218) (tgt := 1251) hx hb dL_law_33 o1 o2 (by rw [hyk]; rfl) (by decide) (lw_c41 l C0 hl h1 h2 h3 h4 h5 hf0 hf8 kk _ _ hI hS)
end LWC
