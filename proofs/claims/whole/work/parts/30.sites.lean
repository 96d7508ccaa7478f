/-! Where the class throws: its eleven places. -/
section OWN
variable {E : aE} {s s0 : State} {args : Array Value}
set_option maxRecDepth 20000 in
theorem ow_thr (hts : ∀ w ∈ aTbl, w.before args s = true) (y1 : (Cond.laysStatic Bundle.tN "UNASSIGNED_STACK" Bundle.steD).before args s = true) (y2 : (Cond.laysStatic Bundle.tN "SUPPRESSED_SENTINEL" Bundle.listD).before args s = true) : ∀ a ∈ Bundle.throwableAtoms, a.before args s = true := (List.forall_mem_cons.mpr ⟨(hts _ (in_tbl_i (i := 148) (by decide +kernel) rfl)), (List.forall_mem_cons.mpr ⟨(hts _ (in_tbl_i (i := 683) (by decide +kernel) rfl)), (List.forall_mem_cons.mpr ⟨(hts _ (in_tbl_i (i := 692) (by decide +kernel) rfl)), (List.forall_mem_cons.mpr ⟨(hts _ (in_tbl_i (i := 696) rfl rfl)), (List.forall_mem_cons.mpr ⟨(hts _ (in_tbl_i (i := 699) (by decide +kernel) rfl)), (List.forall_mem_cons.mpr ⟨(hts _ (in_tbl_i (i := 701) (by decide +kernel) rfl)), (List.forall_mem_cons.mpr ⟨(hts _ (in_tbl_i (i := 684) (by decide +kernel) rfl)), (List.forall_mem_cons.mpr ⟨(hts _ (in_tbl_i (i := 685) rfl rfl)), (List.forall_mem_cons.mpr ⟨(hts _ (in_tbl_i (i := 163) (by decide +kernel) rfl)), (List.forall_mem_cons.mpr ⟨(hts _ (in_tbl_i (i := 164) rfl rfl)), (List.forall_mem_cons.mpr ⟨(hts _ (in_tbl_i (i := 686) (by decide +kernel) rfl)), (List.forall_mem_cons.mpr ⟨(hts _ (in_tbl_i (i := 691) (by decide +kernel) rfl)), (List.forall_mem_cons.mpr ⟨(hts _ (in_tbl_i (i := 697) (by decide +kernel) rfl)), (List.forall_mem_cons.mpr ⟨(hts _ (in_tbl_i (i := 717) (by decide +kernel) rfl)), (List.forall_mem_cons.mpr ⟨(hts _ (in_tbl_i (i := 673) (by decide +kernel) rfl)), (List.forall_mem_cons.mpr ⟨(hts _ (in_tbl_i (i := 718) (by decide +kernel) rfl)), (List.forall_mem_cons.mpr ⟨(hts _ (in_tbl_i (i := 675) (by decide +kernel) rfl)), (List.forall_mem_cons.mpr ⟨(hts _ (in_tbl_i (i := 719) (by decide +kernel) rfl)), (List.forall_mem_cons.mpr ⟨(hts _ (in_tbl_i (i := 677) (by decide +kernel) rfl)), (List.forall_mem_cons.mpr ⟨(hts _ (in_tbl_i (i := 687) (by decide +kernel) rfl)), (List.forall_mem_cons.mpr ⟨y1, (List.forall_mem_cons.mpr ⟨(hts _ (in_tbl_i (i := 689) (by decide +kernel) rfl)), (List.forall_mem_cons.mpr ⟨y2, (List.forall_mem_cons.mpr ⟨(hts _ (in_tbl_i (i := 679) (by decide +kernel) rfl)), (fun _ h => absurd h List.not_mem_nil)⟩)⟩)⟩)⟩)⟩)⟩)⟩)⟩)⟩)⟩)⟩)⟩)⟩)⟩)⟩)⟩)⟩)⟩)⟩)⟩)⟩)⟩)⟩)⟩)
set_option maxRecDepth 20000 in
theorem ow_thrS (hts : ∀ w ∈ aTbl, w.before args s = true) : ∀ a ∈ Bundle.throwableSAtoms, a.before args s = true := (List.forall_mem_cons.mpr ⟨(hts _ (in_tbl_i (i := 713) (by decide +kernel) rfl)), (List.forall_mem_cons.mpr ⟨(hts _ (in_tbl_i (i := 714) rfl rfl)), (List.forall_mem_cons.mpr ⟨(hts _ (in_tbl_i (i := 716) (by decide +kernel) rfl)), (List.forall_mem_cons.mpr ⟨(hts _ (in_tbl_i (i := 679) (by decide +kernel) rfl)), (fun _ h => absurd h List.not_mem_nil)⟩)⟩)⟩)⟩)
set_option maxRecDepth 20000 in
theorem ow_rt (hts : ∀ w ∈ aTbl, w.before args s = true) (hW0 : s0.WarmedH s.vm) (w4 : ∀ w ∈ lw_tbl, w.before #[Value.ref E.2.1] s0 = true) : ∀ a ∈ Bundle.passSAtoms "java/lang/RuntimeException" "java/lang/Exception" 7 Bundle.six, a.before args s = true := (List.forall_mem_cons.mpr ⟨(hts _ (in_tbl_i (i := 707) (by decide +kernel) rfl)), (List.forall_mem_cons.mpr ⟨(hts _ (in_tbl_i (i := 708) rfl rfl)), (List.forall_mem_cons.mpr ⟨(hts _ (in_tbl_i (i := 709) (by decide +kernel) rfl)), (List.forall_mem_cons.mpr ⟨(hts _ (in_tbl_i (i := 710) (by decide +kernel) rfl)), (List.forall_mem_cons.mpr ⟨(va_Nw.use rfl (va_Nw.warmD hW0 (va_Nw.of rfl (w4 _ (List.mem_of_getElem? (i := 667) (by decide +kernel)))))), (fun _ h => absurd h List.not_mem_nil)⟩)⟩)⟩)⟩)⟩)
set_option maxRecDepth 20000 in
theorem ow_ex (hts : ∀ w ∈ aTbl, w.before args s = true) (hW0 : s0.WarmedH s.vm) (w4 : ∀ w ∈ lw_tbl, w.before #[Value.ref E.2.1] s0 = true) : ∀ a ∈ Bundle.passSAtoms "java/lang/Exception" Bundle.tN 7 Bundle.six, a.before args s = true := (List.forall_mem_cons.mpr ⟨(hts _ (in_tbl_i (i := 710) (by decide +kernel) rfl)), (List.forall_mem_cons.mpr ⟨(hts _ (in_tbl_i (i := 711) rfl rfl)), (List.forall_mem_cons.mpr ⟨(hts _ (in_tbl_i (i := 712) (by decide +kernel) rfl)), (List.forall_mem_cons.mpr ⟨(hts _ (in_tbl_i (i := 713) (by decide +kernel) rfl)), (List.forall_mem_cons.mpr ⟨(va_Nw.use rfl (va_Nw.warmD hW0 (va_Nw.of rfl (w4 _ (List.mem_of_getElem? (i := 669) (by decide +kernel)))))), (fun _ h => absurd h List.not_mem_nil)⟩)⟩)⟩)⟩)⟩)
set_option maxRecDepth 20000 in
theorem ow_p0 (hts : ∀ w ∈ aTbl, w.before args s = true) (hW0 : s0.WarmedH s.vm) (w4 : ∀ w ∈ lw_tbl, w.before #[Value.ref E.2.1] s0 = true) : ∀ a ∈ Bundle.passSAtoms "java/lang/IndexOutOfBoundsException" "java/lang/RuntimeException" 7 Bundle.six, a.before args s = true := (List.forall_mem_cons.mpr ⟨(hts _ (in_tbl_i (i := 778) (by decide +kernel) rfl)), (List.forall_mem_cons.mpr ⟨(hts _ (in_tbl_i (i := 779) rfl rfl)), (List.forall_mem_cons.mpr ⟨(hts _ (in_tbl_i (i := 780) (by decide +kernel) rfl)), (List.forall_mem_cons.mpr ⟨(hts _ (in_tbl_i (i := 707) (by decide +kernel) rfl)), (List.forall_mem_cons.mpr ⟨(va_Nw.use rfl (va_Nw.warmD hW0 (va_Nw.of rfl (w4 _ (List.mem_of_getElem? (i := 665) (by decide +kernel)))))), (fun _ h => absurd h List.not_mem_nil)⟩)⟩)⟩)⟩)⟩)
set_option maxRecDepth 20000 in
theorem ow_p1 (hts : ∀ w ∈ aTbl, w.before args s = true) (hW0 : s0.WarmedH s.vm) (w4 : ∀ w ∈ lw_tbl, w.before #[Value.ref E.2.1] s0 = true) : ∀ a ∈ Bundle.passSAtoms "java/lang/IllegalArgumentException" "java/lang/RuntimeException" 7 Bundle.six, a.before args s = true := (List.forall_mem_cons.mpr ⟨(hts _ (in_tbl_i (i := 751) (by decide +kernel) rfl)), (List.forall_mem_cons.mpr ⟨(hts _ (in_tbl_i (i := 752) rfl rfl)), (List.forall_mem_cons.mpr ⟨(hts _ (in_tbl_i (i := 753) (by decide +kernel) rfl)), (List.forall_mem_cons.mpr ⟨(hts _ (in_tbl_i (i := 707) (by decide +kernel) rfl)), (List.forall_mem_cons.mpr ⟨(va_Nw.use rfl (va_Nw.warmD hW0 (va_Nw.of rfl (w4 _ (List.mem_of_getElem? (i := 665) (by decide +kernel)))))), (fun _ h => absurd h List.not_mem_nil)⟩)⟩)⟩)⟩)⟩)
set_option maxRecDepth 20000 in
theorem ow_p2 (hts : ∀ w ∈ aTbl, w.before args s = true) (hW0 : s0.WarmedH s.vm) (w4 : ∀ w ∈ lw_tbl, w.before #[Value.ref E.2.1] s0 = true) : ∀ a ∈ Bundle.passSAtoms "java/lang/IllegalStateException" "java/lang/RuntimeException" 7 Bundle.six, a.before args s = true := (List.forall_mem_cons.mpr ⟨(hts _ (in_tbl_i (i := 704) (by decide +kernel) rfl)), (List.forall_mem_cons.mpr ⟨(hts _ (in_tbl_i (i := 705) rfl rfl)), (List.forall_mem_cons.mpr ⟨(hts _ (in_tbl_i (i := 706) (by decide +kernel) rfl)), (List.forall_mem_cons.mpr ⟨(hts _ (in_tbl_i (i := 707) (by decide +kernel) rfl)), (List.forall_mem_cons.mpr ⟨(va_Nw.use rfl (va_Nw.warmD hW0 (va_Nw.of rfl (w4 _ (List.mem_of_getElem? (i := 665) (by decide +kernel)))))), (fun _ h => absurd h List.not_mem_nil)⟩)⟩)⟩)⟩)⟩)
theorem ow_z_UNASSIGNED_STACK (w4 : ∀ w ∈ lw_tbl, w.before #[Value.ref E.2.1] s0 = true) (w5 : (Jvm.Cond.and given_1 narrow_1).before #[Value.ref E.2.1] s0 = true) : va_Zq "java/lang/Throwable" "UNASSIGNED_STACK" "[Ljava/lang/StackTraceElement;" jF s0 s0.heap :=
  va_Zqof (w4 _ (List.mem_of_getElem? (i := 688) (by decide +kernel))) (w4 _ (List.mem_of_getElem? (i := 148) (by decide +kernel))) (flat_of_before _ w5 _ (List.mem_of_getElem? (i := 9) (by decide +kernel))) (fun _ _ h => h)
theorem ow_z_SUPPRESSED_SENTINEL (w4 : ∀ w ∈ lw_tbl, w.before #[Value.ref E.2.1] s0 = true) (w5 : (Jvm.Cond.and given_1 narrow_1).before #[Value.ref E.2.1] s0 = true) : va_Zq "java/lang/Throwable" "SUPPRESSED_SENTINEL" "Ljava/util/List;" jF s0 s0.heap :=
  va_Zqof (w4 _ (List.mem_of_getElem? (i := 690) (by decide +kernel))) (w4 _ (List.mem_of_getElem? (i := 148) (by decide +kernel))) (flat_of_before _ w5 _ (List.mem_of_getElem? (i := 10) (by decide +kernel))) (fun _ _ h => h)
theorem isRef_Zq {C n d : String} (h : va_Zq C n d jF s s.heap) : (Cond.isRef (.static C n d)).before args s = true := by
  have key : ∀ v : Value, (v = .null ∨ ∃ t, v = .ref t) → va_Z C n d v jF s s.heap → (Cond.isRef (.static C n d)).before args s = true := by
    intro v hv hZ
    obtain ⟨cf, kf, fi, f, a, cell, h1, h2, h3, h4, h5, h6, h7, -⟩ := hZ
    have he : (Term.static C n d).eval args s none [] s = some v := by
      simp [Term.eval, State.fieldNamed?, h1, h2, h4, h5, h6, h7]
    rcases hv with rfl | ⟨t, rfl⟩
    · simp [Cond.before, Cond.holds, Cond.value, he]
    · simp [Cond.before, Cond.holds, Cond.value, he]
  rcases h with h | ⟨t, h⟩
  · exact key _ (Or.inl rfl) h
  · exact key _ (Or.inr ⟨t, rfl⟩) h
theorem lays_at {C n d : String} {M : aM} {a0 : Array Value} (hW0 : s0.WarmedH s.vm) (h2 : s0.heap = E.2.2.2.1) (h3 : s0.heap.size = E.1 + 1) (hH : aWd E M s.heap) (h : (Cond.laysStatic C n d).before a0 s0 = true) : (Cond.laysStatic C n d).before args s = true := by
  obtain ⟨c, k, i, f, a, cell, g1, g2, g3, g4, g5, g6, g7, g8, g9⟩ := Cond.laysStatic_spec h
  have hvm := hW0.alike
  obtain ⟨k', hi', he⟩ := State.fieldFound?_setVm hvm g2
  have hi9 : s.fieldFound? C n d = some (c, k', i, f) := hi'
  have hc9 : s.vm.findClass C = some c := by rw [hvm.findClass]; exact g1
  have hs9 : k'.statics = some a := by rw [he]; exact g4
  have ht9 : k'.staticTypes[f.slot]? = some f.type := by rw [he]; exact g9
  have hh9 : s.heap[a]? = some cell := by
    have ha : a < s0.heap.size := (Array.getElem?_eq_some_iff.mp g5).1
    rw [h3] at ha
    rw [hH.2.2 a (Nat.lt_succ_iff.mp ha), ← h2]; exact g5
  simp [Cond.before, Cond.holds, Cond.value, hc9, hi9, hs9, hh9, g3, g6, g7, g8, ht9]
theorem Zq_at {C n d : String} {M : aM} (hW0 : s0.WarmedH s.vm) (h2 : s0.heap = E.2.2.2.1) (h3 : s0.heap.size = E.1 + 1) (hH : aWd E M s.heap) (h : va_Zq C n d jF s0 s0.heap) : va_Zq C n d jF s s.heap := by
  have hq : ∀ q : Nat, q < s0.heap.size → ¬ jF q → s.heap[q]? = s0.heap[q]? := fun q h9 _ => by rw [h2]; exact hH.2.2 q (by omega)
  rcases va_Zq.moved hW0.alike h with h | ⟨t, h⟩
  · exact Or.inl (h.kept hq)
  · exact Or.inr ⟨t, h.kept hq⟩
set_option maxRecDepth 20000 in
theorem ow_0 (hts : ∀ w ∈ aTbl, w.before args s = true) (hW0 : s0.WarmedH s.vm) (w4 : ∀ w ∈ lw_tbl, w.before #[Value.ref E.2.1] s0 = true) (z1 : (Cond.isRef (.static Bundle.tN "UNASSIGNED_STACK" Bundle.steD)).before args s = true) (z2 : (Cond.isRef (.static Bundle.tN "SUPPRESSED_SENTINEL" Bundle.listD)).before args s = true) (y1 : (Cond.laysStatic Bundle.tN "UNASSIGNED_STACK" Bundle.steD).before args s = true) (y2 : (Cond.laysStatic Bundle.tN "SUPPRESSED_SENTINEL" Bundle.listD).before args s = true) : ∀ a ∈ Bundle.ownAtoms "PolicyJudge" 260 "java/lang/IndexOutOfBoundsException" ["java/lang/RuntimeException", "java/lang/Exception"], a.before args s = true := List.forall_mem_append.mpr ⟨List.forall_mem_append.mpr ⟨List.forall_mem_append.mpr ⟨ow_thr hts y1 y2, ow_thrS hts⟩, List.forall_mem_append.mpr ⟨ow_p0 hts hW0 w4, List.forall_mem_append.mpr ⟨ow_rt hts hW0 w4, ow_ex hts hW0 w4⟩⟩⟩, (List.forall_mem_cons.mpr ⟨(hts _ (in_tbl_i (i := 777) (by decide +kernel) rfl)), (List.forall_mem_cons.mpr ⟨(hts _ (in_tbl_i (i := 768) (by decide +kernel) rfl)), (List.forall_mem_cons.mpr ⟨(va_Nw.use rfl (va_Nw.warmC hW0 (va_Nw.of rfl (w4 _ (List.mem_of_getElem? (i := 769) (by decide +kernel)))))), (List.forall_mem_cons.mpr ⟨(hts _ (in_tbl_i (i := 770) (by decide +kernel) rfl)), (List.forall_mem_cons.mpr ⟨(hts _ (in_tbl_i (i := 695) (by decide +kernel) rfl)), (List.forall_mem_cons.mpr ⟨(hts _ (in_tbl_i (i := 771) (by decide +kernel) rfl)), (List.forall_mem_cons.mpr ⟨(hts _ (in_tbl_i (i := 772) (by decide +kernel) rfl)), (List.forall_mem_cons.mpr ⟨(hts _ (in_tbl_i (i := 773) (by decide +kernel) rfl)), (List.forall_mem_cons.mpr ⟨(hts _ (in_tbl_i (i := 774) (by decide +kernel) rfl)), (List.forall_mem_cons.mpr ⟨z1, (List.forall_mem_cons.mpr ⟨z2, (List.forall_mem_cons.mpr ⟨(hts _ (in_tbl_i (i := 682) (by decide +kernel) rfl)), (List.forall_mem_cons.mpr ⟨(hts _ (in_tbl_i (i := 681) (by decide +kernel) rfl)), (List.forall_mem_cons.mpr ⟨(hts _ (in_tbl_i (i := 775) (by decide +kernel) rfl)), (fun _ h => absurd h List.not_mem_nil)⟩)⟩)⟩)⟩)⟩)⟩)⟩)⟩)⟩)⟩)⟩)⟩)⟩)⟩)⟩
set_option maxRecDepth 20000 in
theorem ow_1 (hts : ∀ w ∈ aTbl, w.before args s = true) (hW0 : s0.WarmedH s.vm) (w4 : ∀ w ∈ lw_tbl, w.before #[Value.ref E.2.1] s0 = true) (z1 : (Cond.isRef (.static Bundle.tN "UNASSIGNED_STACK" Bundle.steD)).before args s = true) (z2 : (Cond.isRef (.static Bundle.tN "SUPPRESSED_SENTINEL" Bundle.listD)).before args s = true) (y1 : (Cond.laysStatic Bundle.tN "UNASSIGNED_STACK" Bundle.steD).before args s = true) (y2 : (Cond.laysStatic Bundle.tN "SUPPRESSED_SENTINEL" Bundle.listD).before args s = true) : ∀ a ∈ Bundle.ownAtoms "PolicyJudge" 62 "java/lang/IllegalArgumentException" ["java/lang/RuntimeException", "java/lang/Exception"], a.before args s = true := List.forall_mem_append.mpr ⟨List.forall_mem_append.mpr ⟨List.forall_mem_append.mpr ⟨ow_thr hts y1 y2, ow_thrS hts⟩, List.forall_mem_append.mpr ⟨ow_p1 hts hW0 w4, List.forall_mem_append.mpr ⟨ow_rt hts hW0 w4, ow_ex hts hW0 w4⟩⟩⟩, (List.forall_mem_cons.mpr ⟨(hts _ (in_tbl_i (i := 750) (by decide +kernel) rfl)), (List.forall_mem_cons.mpr ⟨(hts _ (in_tbl_i (i := 741) (by decide +kernel) rfl)), (List.forall_mem_cons.mpr ⟨(va_Nw.use rfl (va_Nw.warmC hW0 (va_Nw.of rfl (w4 _ (List.mem_of_getElem? (i := 742) (by decide +kernel)))))), (List.forall_mem_cons.mpr ⟨(hts _ (in_tbl_i (i := 743) (by decide +kernel) rfl)), (List.forall_mem_cons.mpr ⟨(hts _ (in_tbl_i (i := 694) (by decide +kernel) rfl)), (List.forall_mem_cons.mpr ⟨(hts _ (in_tbl_i (i := 744) (by decide +kernel) rfl)), (List.forall_mem_cons.mpr ⟨(hts _ (in_tbl_i (i := 745) (by decide +kernel) rfl)), (List.forall_mem_cons.mpr ⟨(hts _ (in_tbl_i (i := 746) (by decide +kernel) rfl)), (List.forall_mem_cons.mpr ⟨(hts _ (in_tbl_i (i := 747) (by decide +kernel) rfl)), (List.forall_mem_cons.mpr ⟨z1, (List.forall_mem_cons.mpr ⟨z2, (List.forall_mem_cons.mpr ⟨(hts _ (in_tbl_i (i := 682) (by decide +kernel) rfl)), (List.forall_mem_cons.mpr ⟨(hts _ (in_tbl_i (i := 681) (by decide +kernel) rfl)), (List.forall_mem_cons.mpr ⟨(hts _ (in_tbl_i (i := 748) (by decide +kernel) rfl)), (fun _ h => absurd h List.not_mem_nil)⟩)⟩)⟩)⟩)⟩)⟩)⟩)⟩)⟩)⟩)⟩)⟩)⟩)⟩)⟩
set_option maxRecDepth 20000 in
theorem ow_2 (hts : ∀ w ∈ aTbl, w.before args s = true) (hW0 : s0.WarmedH s.vm) (w4 : ∀ w ∈ lw_tbl, w.before #[Value.ref E.2.1] s0 = true) (z1 : (Cond.isRef (.static Bundle.tN "UNASSIGNED_STACK" Bundle.steD)).before args s = true) (z2 : (Cond.isRef (.static Bundle.tN "SUPPRESSED_SENTINEL" Bundle.listD)).before args s = true) (y1 : (Cond.laysStatic Bundle.tN "UNASSIGNED_STACK" Bundle.steD).before args s = true) (y2 : (Cond.laysStatic Bundle.tN "SUPPRESSED_SENTINEL" Bundle.listD).before args s = true) : ∀ a ∈ Bundle.ownAtoms "PolicyJudge" 51 "java/lang/IllegalStateException" ["java/lang/RuntimeException", "java/lang/Exception"], a.before args s = true := List.forall_mem_append.mpr ⟨List.forall_mem_append.mpr ⟨List.forall_mem_append.mpr ⟨ow_thr hts y1 y2, ow_thrS hts⟩, List.forall_mem_append.mpr ⟨ow_p2 hts hW0 w4, List.forall_mem_append.mpr ⟨ow_rt hts hW0 w4, ow_ex hts hW0 w4⟩⟩⟩, (List.forall_mem_cons.mpr ⟨(hts _ (in_tbl_i (i := 703) (by decide +kernel) rfl)), (List.forall_mem_cons.mpr ⟨(hts _ (in_tbl_i (i := 662) (by decide +kernel) rfl)), (List.forall_mem_cons.mpr ⟨(va_Nw.use rfl (va_Nw.warmC hW0 (va_Nw.of rfl (w4 _ (List.mem_of_getElem? (i := 663) (by decide +kernel)))))), (List.forall_mem_cons.mpr ⟨(hts _ (in_tbl_i (i := 670) (by decide +kernel) rfl)), (List.forall_mem_cons.mpr ⟨(hts _ (in_tbl_i (i := 671) (by decide +kernel) rfl)), (List.forall_mem_cons.mpr ⟨(hts _ (in_tbl_i (i := 672) (by decide +kernel) rfl)), (List.forall_mem_cons.mpr ⟨(hts _ (in_tbl_i (i := 674) (by decide +kernel) rfl)), (List.forall_mem_cons.mpr ⟨(hts _ (in_tbl_i (i := 676) (by decide +kernel) rfl)), (List.forall_mem_cons.mpr ⟨(hts _ (in_tbl_i (i := 678) (by decide +kernel) rfl)), (List.forall_mem_cons.mpr ⟨z1, (List.forall_mem_cons.mpr ⟨z2, (List.forall_mem_cons.mpr ⟨(hts _ (in_tbl_i (i := 682) (by decide +kernel) rfl)), (List.forall_mem_cons.mpr ⟨(hts _ (in_tbl_i (i := 681) (by decide +kernel) rfl)), (List.forall_mem_cons.mpr ⟨(hts _ (in_tbl_i (i := 680) (by decide +kernel) rfl)), (fun _ h => absurd h List.not_mem_nil)⟩)⟩)⟩)⟩)⟩)⟩)⟩)⟩)⟩)⟩)⟩)⟩)⟩)⟩)⟩
end OWN
/-- the place of a class that is thrown: of new, of its constructor -/
def tXi (x : Nat) : Nat × Nat := ([(256, 260), (58, 62), (47, 51)] : List (Nat × Nat)).getD x (0, 0)
theorem xw_0 : Cond.classLink "PolicyJudge" 256 "java/lang/IndexOutOfBoundsException" ∈ aTbl ∧ Cond.instantiable "java/lang/IndexOutOfBoundsException" 6 ∈ aTbl ∧ Cond.initialized "java/lang/IndexOutOfBoundsException" ∈ aTbl := ⟨in_tbl_i (i := 767) (by decide +kernel) rfl, in_tbl_i (i := 768) (by decide +kernel) rfl, in_tbl_i (i := 153) (by decide +kernel) rfl⟩
theorem xw_1 : Cond.classLink "PolicyJudge" 58 "java/lang/IllegalArgumentException" ∈ aTbl ∧ Cond.instantiable "java/lang/IllegalArgumentException" 6 ∈ aTbl ∧ Cond.initialized "java/lang/IllegalArgumentException" ∈ aTbl := ⟨in_tbl_i (i := 740) (by decide +kernel) rfl, in_tbl_i (i := 741) (by decide +kernel) rfl, in_tbl_i (i := 152) (by decide +kernel) rfl⟩
theorem xw_2 : Cond.classLink "PolicyJudge" 47 "java/lang/IllegalStateException" ∈ aTbl ∧ Cond.instantiable "java/lang/IllegalStateException" 6 ∈ aTbl ∧ Cond.initialized "java/lang/IllegalStateException" ∈ aTbl := ⟨in_tbl_i (i := 661) (by decide +kernel) rfl, in_tbl_i (i := 662) (by decide +kernel) rfl, in_tbl_i (i := 151) (by decide +kernel) rfl⟩
theorem xw_all {x : Nat} (h : x < 3) : Cond.classLink "PolicyJudge" (tXi x).1 (tExc x) ∈ aTbl ∧ Cond.instantiable (tExc x) 6 ∈ aTbl ∧ Cond.initialized (tExc x) ∈ aTbl := by
  rcases (show x = 0 ∨ x = 1 ∨ x = 2 by omega) with rfl | rfl | rfl
  · exact xw_0
  · exact xw_1
  · exact xw_2
theorem ow_all {E : aE} {s : State} {args : Array Value} {M : aM} (hts : ∀ w ∈ aTbl, w.before args s = true) (hK : aKx E s) (hH : aWd E M s.heap) {x : Nat} (h : x < 3) : ∀ a ∈ Bundle.ownAtoms "PolicyJudge" (tXi x).2 (tExc x) ["java/lang/RuntimeException", "java/lang/Exception"], a.before args s = true := by
  obtain ⟨-, -, -, -, -, -, -, -, s0, w1, w2, w3, w4, w5, -⟩ := hK
  have z1 : (Cond.isRef (.static Bundle.tN "UNASSIGNED_STACK" Bundle.steD)).before args s = true := isRef_Zq (Zq_at (E := E) w1 w2 w3 hH (ow_z_UNASSIGNED_STACK w4 w5))
  have z2 : (Cond.isRef (.static Bundle.tN "SUPPRESSED_SENTINEL" Bundle.listD)).before args s = true := isRef_Zq (Zq_at (E := E) w1 w2 w3 hH (ow_z_SUPPRESSED_SENTINEL w4 w5))
  have y1 : (Cond.laysStatic Bundle.tN "UNASSIGNED_STACK" Bundle.steD).before args s = true := lays_at (E := E) w1 w2 w3 hH (w4 _ (List.mem_of_getElem? (i := 688) (by decide +kernel)))
  have y2 : (Cond.laysStatic Bundle.tN "SUPPRESSED_SENTINEL" Bundle.listD).before args s = true := lays_at (E := E) w1 w2 w3 hH (w4 _ (List.mem_of_getElem? (i := 690) (by decide +kernel)))
  rcases (show x = 0 ∨ x = 1 ∨ x = 2 by omega) with rfl | rfl | rfl
  · exact ow_0 hts w1 w4 z1 z2 y1 y2
  · exact ow_1 hts w1 w4 z1 z2 y1 y2
  · exact ow_2 hts w1 w4 z1 z2 y1 y2
/-- the throws: method, place, class; the text by ldc_w (1); its place in the pool, its number -/
def tThr : List (Nat × Nat × Nat × Nat × Nat × Nat) := [(2, 20, 2, 0, 49, 4), (3, 18, 1, 0, 60, 5), (5, 9, 0, 1, 261, 6), (7, 9, 0, 1, 258, 7), (9, 16, 0, 1, 263, 8), (12, 29, 1, 0, 173, 9), (14, 16, 2, 1, 267, 10), (16, 13, 0, 1, 265, 11), (19, 24, 2, 0, 210, 12), (20, 22, 2, 0, 227, 13), (25, 13, 2, 0, 250, 14)]
noncomputable def kT (z : Nat × Nat × Nat × Nat × Nat × Nat) : Bool := decide (z.2.2.1 < 3) && (tOwn z.1 == 0 && (decide (decode (tB z.1) z.2.1 = .ok (.new (tXi z.2.2.1).1, 3)) && (decide (decode (tB z.1) (z.2.1 + 3) = .ok (.dup, 1)) && ((match z.2.2.2.1 with
  | 0 => decide (decode (tB z.1) (z.2.1 + 4) = .ok (.ldc z.2.2.2.2.1, 2))
  | _ => decide (decode (tB z.1) (z.2.1 + 4) = .ok (.ldc_w z.2.2.2.2.1, 3))) && (decide (tLdc 0 z.2.2.2.2.1 = some (aR 1 z.2.2.2.2.2)) && (decide (decode (tB z.1) (z.2.1 + 4 + (if z.2.2.2.1 = 0 then 2 else 3)) = .ok (.invokespecial (tXi z.2.2.1).2, 3)) && decide (decode (tB z.1) (z.2.1 + 4 + (if z.2.2.2.1 = 0 then 2 else 3) + 3) = .ok (.athrow, 1))))))))
theorem kT_all : tThr.all kT = true := by decide +kernel
theorem kThr_all : (List.range 252).all (fun q => (tC q).all (fun e => e.2.2.2.1 == 0 || tThr.any (fun z => z.1 == q && (z.2.1 == e.1 && z.2.2.1 + 1 == e.2.2.2.1)))) = true := by decide +kernel
theorem aCell_3 {E : aE} {M : aM} {k : Nat} {H : Heap} (ht : (rK M k).1 = 3) : aCell E M k H := by
  refine ⟨fun q => ?_, fun q => ?_, fun q => ?_, fun q => ?_, fun c q => ?_, fun c _ q => ?_⟩ <;> (rw [ht] at q; omega)
theorem kept_cell {s U : State} {cells slots : Nat} (h : s.sameButNew U [] cells slots) {a : Nat} (ha : a < s.heap.size) : U.heap[a]? = s.heap[a]? := by
  obtain ⟨-, -, -, -, -, h6⟩ := h
  obtain ⟨c', h1, h2, h3, h4⟩ := h6 a s.heap[a] (Array.getElem?_eq_getElem ha)
  rw [h1, Array.getElem?_eq_getElem ha, h2]
  have : c'.slots = s.heap[a].slots := Array.ext_getElem? (fun i => h4 i (fun z => by cases z))
  rw [this]
section XT
variable {E : aE} {p : Program} {l : Launch} {e : Env} {R : Room} {s : State} {m : MethodId} {args : Array Value} {below : List Frame} {meth : Method} {c : Code} {n0 z0 : Nat} {pc q : Nat} {L : List (Option aV)} {st : List aV} {M : aM}
theorem ag_throw (X : aCx E p s m args meth c q) (hst : l.stackTraces = false) (hex : c.exceptionTable.toList = []) {z : Nat × Nat × Nat × Nat × Nat × Nat} (hz : z ∈ tThr) (hzq : z.1 = q) (hzp : z.2.1 = pc) (hn : n0 = aN M) (hz0 : z0 ≤ aZ M) (h0 : 0 < aN M) (hfr : 6 ≤ R.frames) (hlo : 100 ≤ R.locals) (hcs : aN M + 1 - n0 ≤ R.cells ∧ aZ M + 6 - z0 ≤ R.slots) (hLl : L.length = tMl q) (hsl : aWt st ≤ 8) :
    aG E p l e R s m args below meth c n0 z0 (XQ below (aQx E z.2.2.1 (aN M) (aNew M 3 z.2.2.1 6)) args s (aN (aNew M 3 z.2.2.1 6) - n0) (aZ (aNew M 3 z.2.2.1 6) - z0) (aFr E false)) true (pc, L, st, M) := by
  have hk := List.all_eq_true.mp kT_all z hz
  obtain ⟨zq, zp, x, zw, kk, id⟩ := z
  have hzq : zq = q := hzq
  have hzp : zp = pc := hzp
  subst hzq hzp hn
  unfold kT at hk
  simp only [Bool.and_eq_true, decide_eq_true_eq, beq_iff_eq] at hk
  obtain ⟨hx3, ho, d0, d3, d4, hl9, d5, d6⟩ := hk
  obtain ⟨w1, w2, w3⟩ := xw_all hx3
  have hown : s.vm.findClass "PolicyJudge" = some m.cls := by have := X.2.2.2.1; rw [ho] at this; exact this
  obtain ⟨cX, kX, hcX, hkX, -⟩ := Cond.instantiable_spec (X.2.2.2.2.1 _ w2)
  obtain ⟨tx, hR⟩ := aR_str X.2.2.2.2.2.1 (o := 0) (by decide) hl9
  intro H locs ls hW hq hu hl
  obtain ⟨hH, rfl⟩ := hu rfl
  subst hH
  refine W.newcK X.1 X.2.1 hown (X.2.2.2.2.1 _ w1) (X.2.2.2.2.1 _ w2) (X.2.2.2.2.1 _ w3) rfl d0 (by show aN M - aN M + 1 ≤ _; omega) (by show aZ M - z0 + 6 ≤ _; omega) hcX rfl fun H1 kC hkC e1 z1 o1 => ?_
  cases hkX.symm.trans hkC
  refine lv_dup X.1 X.2.1 d3 rfl ?_
  have fin : ∀ pc' : Nat, decode (tB zq) pc' = .ok (.invokespecial (tXi x).2, 3) → decode (tB zq) (pc' + 3) = .ok (.athrow, 1) → W p l e R s m args below meth c H1 [] (aN M - aN M + 1) (aZ M - z0 + 6) (XQ below (aQx E x (aN M) (aNew M 3 x 6)) args s (aN (aNew M 3 x 6) - aN M) (aZ (aNew M 3 x 6) - z0) (aFr E false)) (F0 m pc' ls (.ref (E.2.2.1 id) :: .ref s.heap.size :: .ref s.heap.size :: st.map (cv E))) := by
    intro pc' d5 d6 T hT X9
    have htr : e.platform.stackTraces = false := by rw [X9.admits.platform]; exact hst
    obtain ⟨U, hsteps, hrun, hend, hW9, hsame, ce, hce, hOC⟩ := X9.ctorThrowS X.1 htr (own := "PolicyJudge") (cls := tExc x) (names := ["java/lang/RuntimeException", "java/lang/Exception"]) (ic := (tXi x).2) hown
      (by rcases (show x = 0 ∨ x = 1 ∨ x = 2 by omega) with rfl | rfl | rfl <;> decide +kernel) (by decide +kernel) (ow_all X.2.2.2.2.1 X.2.2.2.2.2.1 hW hx3) (fun y hy => by cases hy) (a := s.heap.size) hcX hkX (by rw [hT]; exact e1) (Nat.le_refl _) (msg := .ref (E.2.2.1 id)) rfl
      (g := F0 m pc' ls (.ref (E.2.2.1 id) :: .ref s.heap.size :: .ref s.heap.size :: st.map (cv E))) rfl (by rw [X.2.2.1]; exact hl.1.trans hLl) rfl rfl (rest := st.map (cv E)) rfl (by rw [X.2.1]; exact d5) (by rw [X.2.1]; exact d6) (fun y hy => by rw [hex] at hy; cases hy) hfr (by
        have := cat_sum (E := E) st hsl
        show 2 * 0 + (1 + ((st.map (cv E)).map fun v => v.category).sum) + (13 * (2 + 1) + 42) ≤ _
        omega) X.2.2.2.2.2.2.2.2
    have hsz : U.heap.size = s.heap.size + 1 := by
      have h1 := hsame.2.2.1
      have h2 : s.heap.size < U.heap.size := (Array.getElem?_eq_some_iff.mp hce).1
      have h1 : U.heap.size ≤ s.heap.size + (aN M - aN M + 1) := h1
      omega
    refine ⟨U, hsteps, s.heap.size, hrun, hend, ⟨hW.1, aWd_new hW h0 hsz (fun y hy => kept_cell hsame hy) (aCell_3 (by rw [aNew_K0])), ce, hce, hOC.vm, hOC.cls⟩, [], hW9, ?_, fun y hy => by cases hy⟩
    rw [show aN (aNew M 3 x 6) - aN M = aN M - aN M + 1 from by show aN M + 1 - aN M = _; omega, show aZ (aNew M 3 x 6) - z0 = aZ M - z0 + 6 from by show aZ M + 6 - z0 = _; omega]
    exact hsame
  cases zw with
  | zero => exact va_ldcS X.1 X.2.1 hown hR (of_decide_eq_true d4) (fin _ d5 d6)
  | succ n =>
    intro T hT X9
    obtain ⟨t, a1, b1⟩ := fin _ d5 d6 T hT X9
    exact ⟨t, X9.ldcStringW X.1 hown (text := tx) (a := E.2.2.1 id) hR.1 hR.2 (g := F0 m (zp + 3 + 1) ls (.ref s.heap.size :: .ref s.heap.size :: st.map (cv E))) rfl (by rw [X.2.1]; exact of_decide_eq_true d4) t a1, b1⟩
end XT
