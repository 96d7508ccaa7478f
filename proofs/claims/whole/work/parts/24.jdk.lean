/-! The methods of the texts (of the library): walked once. -/
def y_coder : MethodName := ⟨"java/lang/String", "coder", "()B"⟩
abbrev b_coder : ByteArray := prog_22_method_152_code
theorem dj_coder_0 : decode b_coder 0 = .ok (.getstatic 38, 3) := by decide +kernel
theorem dj_coder_3 : decode b_coder 3 = .ok (.ifCond .eq 10, 3) := by decide +kernel
theorem dj_coder_6 : decode b_coder 6 = .ok (.aload_n 0, 1) := by decide +kernel
theorem dj_coder_7 : decode b_coder 7 = .ok (.getfield 15, 3) := by decide +kernel
theorem dj_coder_10 : decode b_coder 10 = .ok (.goto 4, 3) := by decide +kernel
theorem dj_coder_13 : decode b_coder 13 = .ok (.iconst 1, 1) := by decide +kernel
theorem dj_coder_14 : decode b_coder 14 = .ok (.ireturn, 1) := by decide +kernel
set_option maxRecDepth 20000 in
theorem wj_coder_c : Cond.code y_coder b_coder 1 (some .byte) ∈ aTbl := in_tbl_i (i := 212) rfl rfl
theorem wj_coder_s : Cond.instanceMethod y_coder ∈ aTbl := in_tbl_i (i := 210) (by decide +kernel) rfl
theorem wj_coder_x : Cond.selects "java/lang/String" y_coder y_coder ∈ aTbl := in_tbl_i (i := 211) (by decide +kernel) rfl
theorem wj_coder_i : Cond.initialized "java/lang/String" ∈ aTbl := in_tbl_i (i := 136) (by decide +kernel) rfl
def y_lat : MethodName := ⟨"java/lang/String", "isLatin1", "()Z"⟩
abbrev b_lat : ByteArray := prog_22_method_154_code
theorem dj_lat_0 : decode b_lat 0 = .ok (.getstatic 38, 3) := by decide +kernel
theorem dj_lat_3 : decode b_lat 3 = .ok (.ifCond .eq 14, 3) := by decide +kernel
theorem dj_lat_6 : decode b_lat 6 = .ok (.aload_n 0, 1) := by decide +kernel
theorem dj_lat_7 : decode b_lat 7 = .ok (.getfield 15, 3) := by decide +kernel
theorem dj_lat_10 : decode b_lat 10 = .ok (.ifCond .ne 7, 3) := by decide +kernel
theorem dj_lat_13 : decode b_lat 13 = .ok (.iconst 1, 1) := by decide +kernel
theorem dj_lat_14 : decode b_lat 14 = .ok (.goto 4, 3) := by decide +kernel
theorem dj_lat_17 : decode b_lat 17 = .ok (.iconst 0, 1) := by decide +kernel
theorem dj_lat_18 : decode b_lat 18 = .ok (.ireturn, 1) := by decide +kernel
set_option maxRecDepth 20000 in
theorem wj_lat_c : Cond.code y_lat b_lat 1 (some .boolean) ∈ aTbl := in_tbl_i (i := 222) rfl rfl
theorem wj_lat_s : Cond.instanceMethod y_lat ∈ aTbl := in_tbl_i (i := 220) (by decide +kernel) rfl
theorem wj_lat_x : Cond.selects "java/lang/String" y_lat y_lat ∈ aTbl := in_tbl_i (i := 221) (by decide +kernel) rfl
theorem wj_lat_i : Cond.initialized "java/lang/String" ∈ aTbl := in_tbl_i (i := 136) (by decide +kernel) rfl
def y_pci : MethodName := ⟨"jdk/internal/util/Preconditions", "checkIndex", "(IILjava/util/function/BiFunction;)I"⟩
abbrev b_pci : ByteArray := prog_28_method_11_code
theorem dj_pci_0 : decode b_pci 0 = .ok (.iload_n 0, 1) := by decide +kernel
theorem dj_pci_1 : decode b_pci 1 = .ok (.ifCond .lt 8, 3) := by decide +kernel
theorem dj_pci_4 : decode b_pci 4 = .ok (.iload_n 0, 1) := by decide +kernel
theorem dj_pci_5 : decode b_pci 5 = .ok (.iload_n 1, 1) := by decide +kernel
theorem dj_pci_6 : decode b_pci 6 = .ok (.if_icmp .lt 10, 3) := by decide +kernel
theorem dj_pci_10 : decode b_pci 10 = .ok (.iload_n 0, 1) := by decide +kernel
theorem dj_pci_11 : decode b_pci 11 = .ok (.iload_n 1, 1) := by decide +kernel
theorem dj_pci_12 : decode b_pci 12 = .ok (.invokestatic 95, 3) := by decide +kernel
theorem dj_pci_16 : decode b_pci 16 = .ok (.iload_n 0, 1) := by decide +kernel
theorem dj_pci_17 : decode b_pci 17 = .ok (.ireturn, 1) := by decide +kernel
set_option maxRecDepth 20000 in
theorem wj_pci_c : Cond.code y_pci b_pci 3 (some .int) ∈ aTbl := in_tbl_i (i := 233) rfl rfl
theorem wj_pci_s : Cond.static y_pci ∈ aTbl := in_tbl_i (i := 232) (by decide +kernel) rfl
theorem wj_pci_i : Cond.initialized "jdk/internal/util/Preconditions" ∈ aTbl := in_tbl_i (i := 138) (by decide +kernel) rfl
def y_len : MethodName := ⟨"java/lang/String", "length", "()I"⟩
abbrev b_len : ByteArray := prog_22_method_54_code
theorem dj_len_0 : decode b_len 0 = .ok (.aload_n 0, 1) := by decide +kernel
theorem dj_len_1 : decode b_len 1 = .ok (.getfield 9, 3) := by decide +kernel
theorem dj_len_4 : decode b_len 4 = .ok (.arraylength, 1) := by decide +kernel
theorem dj_len_5 : decode b_len 5 = .ok (.aload_n 0, 1) := by decide +kernel
theorem dj_len_6 : decode b_len 6 = .ok (.invokevirtual 335, 3) := by decide +kernel
theorem dj_len_9 : decode b_len 9 = .ok (.ishr, 1) := by decide +kernel
theorem dj_len_10 : decode b_len 10 = .ok (.ireturn, 1) := by decide +kernel
set_option maxRecDepth 20000 in
theorem wj_len_c : Cond.code y_len b_len 1 (some .int) ∈ aTbl := in_tbl_i (i := 208) rfl rfl
theorem wj_len_s : Cond.instanceMethod y_len ∈ aTbl := in_tbl_i (i := 206) (by decide +kernel) rfl
theorem wj_len_x : Cond.selects "java/lang/String" y_len y_len ∈ aTbl := in_tbl_i (i := 207) (by decide +kernel) rfl
theorem wj_len_i : Cond.initialized "java/lang/String" ∈ aTbl := in_tbl_i (i := 136) (by decide +kernel) rfl
def y_ci : MethodName := ⟨"java/lang/String", "checkIndex", "(II)V"⟩
abbrev b_ci : ByteArray := prog_22_method_155_code
theorem dj_ci_0 : decode b_ci 0 = .ok (.iload_n 0, 1) := by decide +kernel
theorem dj_ci_1 : decode b_ci 1 = .ok (.iload_n 1, 1) := by decide +kernel
theorem dj_ci_2 : decode b_ci 2 = .ok (.getstatic 1053, 3) := by decide +kernel
theorem dj_ci_5 : decode b_ci 5 = .ok (.invokestatic 1059, 3) := by decide +kernel
theorem dj_ci_8 : decode b_ci 8 = .ok (.pop, 1) := by decide +kernel
theorem dj_ci_9 : decode b_ci 9 = .ok (.return_, 1) := by decide +kernel
set_option maxRecDepth 20000 in
theorem wj_ci_c : Cond.code y_ci b_ci 2 none ∈ aTbl := in_tbl_i (i := 228) rfl rfl
theorem wj_ci_s : Cond.static y_ci ∈ aTbl := in_tbl_i (i := 227) (by decide +kernel) rfl
theorem wj_ci_i : Cond.initialized "java/lang/String" ∈ aTbl := in_tbl_i (i := 136) (by decide +kernel) rfl
def y_lch : MethodName := ⟨"java/lang/StringLatin1", "charAt", "([BI)C"⟩
abbrev b_lch : ByteArray := prog_23_method_2_code
theorem dj_lch_0 : decode b_lch 0 = .ok (.iload_n 1, 1) := by decide +kernel
theorem dj_lch_1 : decode b_lch 1 = .ok (.aload_n 0, 1) := by decide +kernel
theorem dj_lch_2 : decode b_lch 2 = .ok (.arraylength, 1) := by decide +kernel
theorem dj_lch_3 : decode b_lch 3 = .ok (.invokestatic 9, 3) := by decide +kernel
theorem dj_lch_6 : decode b_lch 6 = .ok (.aload_n 0, 1) := by decide +kernel
theorem dj_lch_7 : decode b_lch 7 = .ok (.iload_n 1, 1) := by decide +kernel
theorem dj_lch_8 : decode b_lch 8 = .ok (.baload, 1) := by decide +kernel
theorem dj_lch_9 : decode b_lch 9 = .ok (.sipush 255, 3) := by decide +kernel
theorem dj_lch_12 : decode b_lch 12 = .ok (.iand, 1) := by decide +kernel
theorem dj_lch_13 : decode b_lch 13 = .ok (.i2c, 1) := by decide +kernel
theorem dj_lch_14 : decode b_lch 14 = .ok (.ireturn, 1) := by decide +kernel
set_option maxRecDepth 20000 in
theorem wj_lch_c : Cond.code y_lch b_lch 2 (some .char) ∈ aTbl := in_tbl_i (i := 225) rfl rfl
theorem wj_lch_s : Cond.static y_lch ∈ aTbl := in_tbl_i (i := 224) (by decide +kernel) rfl
theorem wj_lch_i : Cond.initialized "java/lang/StringLatin1" ∈ aTbl := in_tbl_i (i := 137) (by decide +kernel) rfl
def y_ch : MethodName := ⟨"java/lang/String", "charAt", "(I)C"⟩
abbrev b_ch : ByteArray := prog_22_method_56_code
theorem dj_ch_0 : decode b_ch 0 = .ok (.aload_n 0, 1) := by decide +kernel
theorem dj_ch_1 : decode b_ch 1 = .ok (.invokevirtual 492, 3) := by decide +kernel
theorem dj_ch_4 : decode b_ch 4 = .ok (.ifCond .eq 12, 3) := by decide +kernel
theorem dj_ch_7 : decode b_ch 7 = .ok (.aload_n 0, 1) := by decide +kernel
theorem dj_ch_8 : decode b_ch 8 = .ok (.getfield 9, 3) := by decide +kernel
theorem dj_ch_11 : decode b_ch 11 = .ok (.iload_n 1, 1) := by decide +kernel
theorem dj_ch_12 : decode b_ch 12 = .ok (.invokestatic 495, 3) := by decide +kernel
theorem dj_ch_15 : decode b_ch 15 = .ok (.ireturn, 1) := by decide +kernel
theorem dj_ch_16 : decode b_ch 16 = .ok (.aload_n 0, 1) := by decide +kernel
theorem dj_ch_17 : decode b_ch 17 = .ok (.getfield 9, 3) := by decide +kernel
theorem dj_ch_20 : decode b_ch 20 = .ok (.iload_n 1, 1) := by decide +kernel
theorem dj_ch_21 : decode b_ch 21 = .ok (.invokestatic 498, 3) := by decide +kernel
theorem dj_ch_24 : decode b_ch 24 = .ok (.ireturn, 1) := by decide +kernel
set_option maxRecDepth 20000 in
theorem wj_ch_c : Cond.code y_ch b_ch 2 (some .char) ∈ aTbl := in_tbl_i (i := 218) rfl rfl
theorem wj_ch_s : Cond.instanceMethod y_ch ∈ aTbl := in_tbl_i (i := 216) (by decide +kernel) rfl
theorem wj_ch_x : Cond.selects "java/lang/String" y_ch y_ch ∈ aTbl := in_tbl_i (i := 217) (by decide +kernel) rfl
theorem wj_ch_i : Cond.initialized "java/lang/String" ∈ aTbl := in_tbl_i (i := 136) (by decide +kernel) rfl
theorem wf_compact : Cond.fieldLink "java/lang/String" 38 "java/lang/String" "COMPACT_STRINGS" "Z" ∈ aTbl := in_tbl_i (i := 213) (by decide +kernel) rfl
theorem wf_sioobe : Cond.fieldLink "java/lang/String" 1053 "jdk/internal/util/Preconditions" "SIOOBE_FORMATTER" "Ljava/util/function/BiFunction;" ∈ aTbl := in_tbl_i (i := 229) (by decide +kernel) rfl
theorem wf_value : Cond.fieldLink "java/lang/String" 9 "java/lang/String" "value" "[B" ∈ aTbl := in_tbl_i (i := 1936) (by decide +kernel) rfl
theorem wf_coder : Cond.fieldLink "java/lang/String" 15 "java/lang/String" "coder" "B" ∈ aTbl := in_tbl_i (i := 1937) (by decide +kernel) rfl
theorem wm_coder : Cond.methodLink "java/lang/String" 335 y_coder ∈ aTbl := in_tbl_i (i := 209) (by decide +kernel) rfl
theorem wm_lat : Cond.methodLink "java/lang/String" 492 y_lat ∈ aTbl := in_tbl_i (i := 219) (by decide +kernel) rfl
theorem wm_lch : Cond.methodLink "java/lang/String" 495 y_lch ∈ aTbl := in_tbl_i (i := 223) (by decide +kernel) rfl
theorem wm_ci : Cond.methodLink "java/lang/StringLatin1" 9 y_ci ∈ aTbl := in_tbl_i (i := 226) (by decide +kernel) rfl
theorem wm_pci : Cond.methodLink "java/lang/String" 1059 y_pci ∈ aTbl := in_tbl_i (i := 231) (by decide +kernel) rfl
/-- nothing changes; the answer is r -/
def jQ (r : Option Value) : Array Value → State → Outcome → State → Prop := fun _ st oc t => oc = .returned r ∧ t.heap = st.heap
def jR (d w : Nat) : Room := { frames := d, cells := 0, slots := 0, locals := w }
section JC
variable {p : Program} {l : Launch} {e : Env} {R : Room} {s : State} {m : MethodId} {args : Array Value} {below : List Frame} {meth : Method} {c : Code} {H : Heap} {locs : List Loc} {cells slots : Nat} {Q : State → Prop} {cc : ByteArray} {pc : Nat} {ls : Array Slot} {rest : List Value}
theorem j_back {g : JFrame} {r : Option Value} {a : Array Value} (hg : g = F0 m pc g.locals g.stack) (hr : va_Run p l e R s m args below meth c H locs cells slots 0 0 g rest (jQ r a) (fun _ => False)) (k : W p l e R s m args below meth c H locs cells slots Q (F0 m (pc + 3) g.locals (r.toList ++ rest))) : W p l e R s m args below meth c H locs cells slots Q g := by
  intro T hT X9
  obtain ⟨v, st₀, t, T', L9, h0, X', hL, e1, e2, ⟨hv, hh⟩, stp⟩ := hr T hT X9
  have hv : v = r := Outcome.returned.inj hv
  subst hv
  have hL9 : L9 = [] := by
    cases L9 with
    | nil => rfl
    | cons x y => exact absurd (hL x List.mem_cons_self) (fun h => h)
  subst hL9
  rw [List.append_nil] at X'
  obtain ⟨t2, a1, b1⟩ := k T' (by rw [e1, hh, h0]) X'
  refine ⟨t2, stp t2 ?_, b1⟩
  rw [hg]
  exact a1
theorem j_callV {own : String} {index maxL n d w : Nat} {y : MethodName} {bytes : ByteArray} {ret : Option FieldType} {b : Nat} {As : List Value} {B : State → Prop} {r : Option Value} (hx : p.tables.exec = Jvm.exec) (hb : c.code = cc) (hml : c.maxLocals = ls.size) (hown : s.vm.findClass own = some m.cls) (hts : ∀ w ∈ aTbl, w.before args s = true)
    (hM : Met l y (.code y bytes maxL ret :: aTbl) (jR d w) (va_Pc (.ref b :: As) B) (jQ r) 0 0 (fun _ => False)) (h1 : Cond.methodLink own index y ∈ aTbl) (h2 : Cond.instanceMethod y ∈ aTbl) (h3 : Cond.selects y.cls y y ∈ aTbl) (h4 : Cond.initialized y.cls ∈ aTbl) (h5 : Cond.code y bytes maxL ret ∈ aTbl)
    (hy : y.cls ≠ "java/lang/invoke/MethodHandle" ∧ y.cls ≠ "java/lang/invoke/VarHandle" ∧ (parseMethodDescriptor y.desc).map (fun d => d.parameters.length) = some n) (hR : d + 1 ≤ R.frames ∧ 8 + (maxL + 11) + w ≤ R.locals) (hcs : cells ≤ R.cells ∧ slots ≤ R.slots) (hrec : ∃ cell : Cell, H[b]? = some cell ∧ cell.vm.isStatics = false ∧ s.vm.findClass y.cls = some cell.cls) (hB : ∀ U : State, U.heap = H → s.WarmedH U.vm → B U) (hbl : ∀ u U : State, U.vm = u.vm → U.heap = u.heap → B u → B U) (hn : As.length = n) (hrm : (rest.map fun v => v.category).sum ≤ 8) (hd : decode cc pc = .ok (.invokevirtual index, 3))
    (k : W p l e R s m args below meth c H locs cells slots Q (F0 m (pc + 3) ls (r.toList ++ rest))) : W p l e R s m args below meth c H locs cells slots Q (F0 m pc ls (As.reverse ++ .ref b :: rest)) := by
  have hG : GoodIn aTbl (wsV own index y.cls y (.code y bytes maxL ret :: aTbl)) := goodT (fun w hw => by
    unfold wsV at hw
    simp only [List.cons_append, List.nil_append, List.mem_cons] at hw
    rcases hw with rfl | rfl | rfl | rfl | rfl | hw
    · exact h1
    · exact h2
    · exact h3
    · exact h4
    · exact h5
    · exact hw)
  have cw := cwV (R := R) (s := s) (args := args) (own := own) (C := y.cls) (index := index) (y := y) (bytes := bytes) (maxL := maxL) (mc := 0) (ms := 0) (ret := ret) (Ts := aTbl) (ws := .code y bytes maxL ret :: aTbl) (ws' := aTbl) (rm := jR d w) n hts hG rfl rfl rfl ⟨rfl, hy⟩ hR
  refine j_back (g := F0 m pc ls (As.reverse ++ .ref b :: rest)) rfl (va_runV (b := b) (As := As) (rest := rest) ⟨hx, hb, hml, hown, hts⟩ hM cw ⟨fun a U g mk q => ⟨q.1, hbl U _ rfl rfl q.2⟩, hrec, fun U hU hWm => ⟨rfl, hB U hU hWm⟩⟩ rfl hn rfl rfl (lv_room hrm) hd ⟨hcs.1, hcs.2⟩) k
theorem j_callS {own : String} {index maxL n d w : Nat} {y : MethodName} {bytes : ByteArray} {ret : Option FieldType} {As : List Value} {B : State → Prop} {r : Option Value} (hx : p.tables.exec = Jvm.exec) (hb : c.code = cc) (hml : c.maxLocals = ls.size) (hown : s.vm.findClass own = some m.cls) (hts : ∀ w ∈ aTbl, w.before args s = true)
    (hM : Met l y (.code y bytes maxL ret :: aTbl) (jR d w) (va_Pc As B) (jQ r) 0 0 (fun _ => False)) (h1 : Cond.methodLink own index y ∈ aTbl) (h2 : Cond.static y ∈ aTbl) (h4 : Cond.initialized y.cls ∈ aTbl) (h5 : Cond.code y bytes maxL ret ∈ aTbl)
    (hy : y.cls ≠ "java/lang/invoke/MethodHandle" ∧ y.cls ≠ "java/lang/invoke/VarHandle" ∧ (parseMethodDescriptor y.desc).map (fun d => d.parameters.length) = some n) (hR : d + 1 ≤ R.frames ∧ 8 + (maxL + 11) + w ≤ R.locals) (hcs : cells ≤ R.cells ∧ slots ≤ R.slots) (hB : ∀ U : State, U.heap = H → s.WarmedH U.vm → B U) (hbl : ∀ u U : State, U.vm = u.vm → U.heap = u.heap → B u → B U) (hn : As.length = n) (hrm : (rest.map fun v => v.category).sum ≤ 8) (hd : decode cc pc = .ok (.invokestatic index, 3))
    (k : W p l e R s m args below meth c H locs cells slots Q (F0 m (pc + 3) ls (r.toList ++ rest))) : W p l e R s m args below meth c H locs cells slots Q (F0 m pc ls (As.reverse ++ rest)) := by
  have hG : GoodIn aTbl (va_wsS own index y (.code y bytes maxL ret :: aTbl)) := goodT (fun w hw => by
    unfold va_wsS at hw
    simp only [List.cons_append, List.nil_append, List.mem_cons] at hw
    rcases hw with rfl | rfl | rfl | rfl | hw
    · exact h1
    · exact h2
    · exact h4
    · exact h5
    · exact hw)
  have cw := va_cwS (R := R) (s := s) (args := args) (own := own) (index := index) (y := y) (bytes := bytes) (maxL := maxL) (mc := 0) (ms := 0) (ret := ret) (Ts := aTbl) (ws := .code y bytes maxL ret :: aTbl) (ws' := aTbl) (rm := jR d w) n hts hG rfl rfl rfl hy hR
  refine j_back (g := F0 m pc ls (As.reverse ++ rest)) rfl (va_runS (As := As) (rest := rest) ⟨hx, hb, hml, hown, hts⟩ hM cw ⟨fun a U g mk q => ⟨q.1, hbl U _ rfl rfl q.2⟩, fun U hU hWm => ⟨rfl, hB U hU hWm⟩⟩ rfl hn rfl rfl (lv_room hrm) hd ⟨hcs.1, hcs.2⟩) k
theorem j_getf (hx : p.tables.exec = Jvm.exec) (hb : c.code = cc) {o n d own : String} {v : Value} {a index : Nat} (hF : va_OF o n d v a jF s s.heap) (hown : s.vm.findClass own = some m.cls) (hlk : (Cond.fieldLink own index o n d).before args s = true) (hd : decode cc pc = .ok (.getfield index, 3))
    (kk : W p l e R s m args below meth c s.heap locs cells slots Q (F0 m (pc + 3) ls (v :: rest))) : W p l e R s m args below meth c s.heap locs cells slots Q (F0 m pc ls (.ref a :: rest)) := by
  obtain ⟨cf, k, fi, f, cell, h1, h2, h3, h4, h5, h6⟩ := hF
  exact W.getf hx hb hown hlk h1 h2 h3 h4 (v := v) h5 rfl rfl hd kk
end JC
/-- coder() -/
theorem jc_coder (l : Launch) (a v : Nat) (bs : List Int32) : Met l y_coder (.code y_coder b_coder 1 (some .byte) :: aTbl) (jR 0 0) (va_Pc [.ref a] (jS a v bs)) (jQ (some (.int 0))) 0 0 (fun _ => False) := by
  refine Met.ofW (cc := b_coder) (maxL := 1) (ret := some .byte) (by decide) rfl ?_
  intro p e s m args below meth c s₁ B hml hv
  obtain ⟨rfl, hj⟩ := hv
  obtain ⟨j1, j2, j3, j4, j5, j6⟩ := hj
  have hx := B.exec
  have hb := B.bytes
  have hr := B.returns
  have hts0 := atoms_spec (ws := .code y_coder b_coder 1 (some .byte) :: aTbl) B.pre
  have hts : ∀ w ∈ aTbl, w.before _ s = true := fun w hw => hts0 w (List.mem_cons_of_mem _ hw)
  have hown : s.vm.findClass "java/lang/String" = some m.cls := findClass_of_methodNamed B.named
  have hlocks := B.notSynchronized
  have hl := lv_entry ([.ref a]) (n := 1) (Nat.le_of_ble_eq_true rfl)
  rw [lg_entry_eq]
  generalize (lg_sl ([.ref a]) ++ List.replicate (1 - (lg_sl ([.ref a])).length) Slot.unset).toArray = ls at hl ⊢
  have hl : lv_has ls 1 [(0, .ref a)] := hl
  refine va_gets hx hb j5 va_S.rf hown (hts _ wf_compact) (fun _ h => h) dj_coder_0 ?_
  refine lv_if_eq hx hb dj_coder_3 (tgt := 13) rfl (fun h => absurd h (by decide)) (fun _ => ?_)
  refine lv_aload_n hx hb dj_coder_6 rfl (lv_at hl 0 rfl) ?_
  refine j_getf hx hb j2 hown (hts _ wf_coder) dj_coder_7 ?_
  refine lv_goto hx hb dj_coder_10 (tgt := 14) rfl ?_
  exact W.zret (ty := .byte) (v := 0) hx hb hr rfl (fun t ht _ => ⟨rfl, ht⟩) (fun q h => by cases h) dj_coder_14 hlocks
/-- isLatin1() -/
theorem jc_lat (l : Launch) (a v : Nat) (bs : List Int32) : Met l y_lat (.code y_lat b_lat 1 (some .boolean) :: aTbl) (jR 0 0) (va_Pc [.ref a] (jS a v bs)) (jQ (some (.int 1))) 0 0 (fun _ => False) := by
  refine Met.ofW (cc := b_lat) (maxL := 1) (ret := some .boolean) (by decide) rfl ?_
  intro p e s m args below meth c s₁ B hml hv
  obtain ⟨rfl, hj⟩ := hv
  obtain ⟨j1, j2, j3, j4, j5, j6⟩ := hj
  have hx := B.exec
  have hb := B.bytes
  have hr := B.returns
  have hts0 := atoms_spec (ws := .code y_lat b_lat 1 (some .boolean) :: aTbl) B.pre
  have hts : ∀ w ∈ aTbl, w.before _ s = true := fun w hw => hts0 w (List.mem_cons_of_mem _ hw)
  have hown : s.vm.findClass "java/lang/String" = some m.cls := findClass_of_methodNamed B.named
  have hlocks := B.notSynchronized
  have hl := lv_entry ([.ref a]) (n := 1) (Nat.le_of_ble_eq_true rfl)
  rw [lg_entry_eq]
  generalize (lg_sl ([.ref a]) ++ List.replicate (1 - (lg_sl ([.ref a])).length) Slot.unset).toArray = ls at hl ⊢
  have hl : lv_has ls 1 [(0, .ref a)] := hl
  refine va_gets hx hb j5 va_S.rf hown (hts _ wf_compact) (fun _ h => h) dj_lat_0 ?_
  refine lv_if_eq hx hb dj_lat_3 (tgt := 17) rfl (fun h => absurd h (by decide)) (fun _ => ?_)
  refine lv_aload_n hx hb dj_lat_6 rfl (lv_at hl 0 rfl) ?_
  refine j_getf hx hb j2 hown (hts _ wf_coder) dj_lat_7 ?_
  refine lv_if_ne hx hb dj_lat_10 (tgt := 17) rfl (fun h => absurd rfl h) (fun _ => ?_)
  refine lv_iconst hx hb dj_lat_13 (v := 1) rfl ?_
  refine lv_goto hx hb dj_lat_14 (tgt := 18) rfl ?_
  exact W.zret (ty := .boolean) (v := 1) hx hb hr rfl (fun t ht _ => ⟨rfl, ht⟩) (fun q h => by cases h) dj_lat_18 hlocks
/-- Preconditions.checkIndex, in range -/
theorem jc_pci (l : Launch) (i n : Int32) (z : Value) (hz : z.category = 1) (h1 : ¬ i < 0) (h2 : i < n) : Met l y_pci (.code y_pci b_pci 3 (some .int) :: aTbl) (jR 0 0) (va_Pc [.int i, .int n, z] (fun _ => True)) (jQ (some (.int i))) 0 0 (fun _ => False) := by
  refine Met.ofW (cc := b_pci) (maxL := 3) (ret := some .int) (by decide) rfl ?_
  intro p e s m args below meth c s₁ B hml hv
  obtain ⟨rfl, -⟩ := hv
  have hx := B.exec
  have hb := B.bytes
  have hr := B.returns
  have hlocks := B.notSynchronized
  have hsl : (lg_sl ([.int i, .int n, z])).length = 3 := by
    have e1 : lg_sl ([.int i, .int n, z]) = [.val (.int i), .val (.int n)] ++ lg_sl [z] := rfl
    have e2 : lg_sl [z] = [.val z] := by
      unfold lg_sl
      simp [hz]
    rw [e1, e2]
    rfl
  have hl := lv_entry ([.int i, .int n, z]) (n := 3) (by rw [hsl]; exact Nat.le_refl _)
  rw [lg_entry_eq]
  generalize (lg_sl ([.int i, .int n, z]) ++ List.replicate (3 - (lg_sl ([.int i, .int n, z])).length) Slot.unset).toArray = ls at hl ⊢
  have hl : lv_has ls 3 [(0, .int i), (1, .int n)] := ⟨hl.1, hl.2.1, fun q hq => hl.2.2 q (by
    rw [show lv_args 0 [.int i, .int n, z] = (0, .int i) :: (1, .int n) :: lv_args 2 [z] from rfl]
    rcases List.mem_cons.mp hq with h | h
    · rw [h]; exact List.mem_cons_self
    · rw [List.mem_singleton.mp h]; exact List.mem_cons_of_mem _ List.mem_cons_self)⟩
  refine lv_iload_n hx hb dj_pci_0 rfl (lv_at hl 0 rfl) ?_
  refine lv_if_lt hx hb dj_pci_1 (tgt := 9) rfl (fun h => absurd h h1) (fun _ => ?_)
  refine lv_iload_n hx hb dj_pci_4 rfl (lv_at hl 0 rfl) ?_
  refine lv_iload_n hx hb dj_pci_5 rfl (lv_at hl 1 rfl) ?_
  refine lv_icmp_lt hx hb dj_pci_6 (tgt := 16) rfl (fun _ => ?_) (fun h => absurd h2 h)
  refine lv_iload_n hx hb dj_pci_16 rfl (lv_at hl 0 rfl) ?_
  exact W.iret (v := i) hx hb hr (fun t ht _ => ⟨rfl, ht⟩) (fun q h => by cases h) dj_pci_17 hlocks
/-- length() -/
theorem jc_len (l : Launch) (a v : Nat) (bs : List Int32) : Met l y_len (.code y_len b_len 1 (some .int) :: aTbl) (jR 1 20) (va_Pc [.ref a] (jS a v bs)) (jQ (some (.int (Int32.ofNat bs.length)))) 0 0 (fun _ => False) := by
  refine Met.ofW (cc := b_len) (maxL := 1) (ret := some .int) (by decide) rfl ?_
  intro p e s m args below meth c s₁ B hml hv
  obtain ⟨rfl, hj⟩ := hv
  have hj0 := hj
  obtain ⟨j1, j2, j3, j4, j5, j6⟩ := hj
  have hx := B.exec
  have hb := B.bytes
  have hr := B.returns
  have hts0 := atoms_spec (ws := .code y_len b_len 1 (some .int) :: aTbl) B.pre
  have hts : ∀ w ∈ aTbl, w.before _ s = true := fun w hw => hts0 w (List.mem_cons_of_mem _ hw)
  have hown : s.vm.findClass "java/lang/String" = some m.cls := findClass_of_methodNamed B.named
  have hlocks := B.notSynchronized
  have hl := lv_entry ([.ref a]) (n := 1) (Nat.le_of_ble_eq_true rfl)
  rw [lg_entry_eq]
  generalize (lg_sl ([.ref a]) ++ List.replicate (1 - (lg_sl ([.ref a])).length) Slot.unset).toArray = ls at hl ⊢
  have hl : lv_has ls 1 [(0, .ref a)] := hl
  refine lv_aload_n hx hb dj_len_0 rfl (lv_at hl 0 rfl) ?_
  refine j_getf hx hb j3 hown (hts _ wf_value) dj_len_1 ?_
  refine va_tlen hx hb j4 va_S.rf (v := Int32.ofNat bs.length) rfl dj_len_4 ?_
  refine lv_aload_n hx hb dj_len_5 rfl (lv_at hl 0 rfl) ?_
  refine j_callV (own := "java/lang/String") (n := 0) (As := []) (b := a) (rest := [.int (Int32.ofNat bs.length)]) hx hb (hml.trans hl.1.symm) hown hts (jc_coder l a v bs) wm_coder wj_coder_s wj_coder_x wj_coder_i wj_coder_c ⟨by decide, by decide, by decide +kernel⟩ ⟨by decide, by decide⟩ ⟨Nat.le_refl _, Nat.le_refl _⟩ ?_ (fun U hU hW => hj0.moved hW.alike hU) (fun u U hv hh h => h.moved (by rw [hv]; exact Vm.Alike.refl u.vm) hh) rfl (Nat.le_of_ble_eq_true rfl) dj_len_6 ?_
  · obtain ⟨cell, q1, q2, q3, -⟩ := j1
    exact ⟨cell, q1, q2, q3⟩
  · refine lv_ishr hx hb dj_len_9 ?_
    rw [show Int32.ofNat bs.length >>> ((0 : Int32) &&& 31) = Int32.ofNat bs.length from sb_shr0 _]
    exact W.iret (v := Int32.ofNat bs.length) hx hb hr (fun t ht _ => ⟨rfl, ht⟩) (fun q h => by cases h) dj_len_10 hlocks
/-- String.checkIndex, in range -/
theorem jc_ci (l : Launch) (a v : Nat) (bs : List Int32) (i n : Int32) (h1 : ¬ i < 0) (h2 : i < n) : Met l y_ci (.code y_ci b_ci 2 none :: aTbl) (jR 1 22) (va_Pc [.int i, .int n] (jS a v bs)) (jQ none) 0 0 (fun _ => False) := by
  refine Met.ofW (cc := b_ci) (maxL := 2) (ret := none) (by decide) rfl ?_
  intro p e s m args below meth c s₁ B hml hv
  obtain ⟨rfl, hj⟩ := hv
  obtain ⟨j1, j2, j3, j4, j5, j6⟩ := hj
  have hx := B.exec
  have hb := B.bytes
  have hr := B.returns
  have hts0 := atoms_spec (ws := .code y_ci b_ci 2 none :: aTbl) B.pre
  have hts : ∀ w ∈ aTbl, w.before _ s = true := fun w hw => hts0 w (List.mem_cons_of_mem _ hw)
  have hown : s.vm.findClass "java/lang/String" = some m.cls := findClass_of_methodNamed B.named
  have hlocks := B.notSynchronized
  have hl := lv_entry ([.int i, .int n]) (n := 2) (Nat.le_of_ble_eq_true rfl)
  rw [lg_entry_eq]
  generalize (lg_sl ([.int i, .int n]) ++ List.replicate (2 - (lg_sl ([.int i, .int n])).length) Slot.unset).toArray = ls at hl ⊢
  have hl : lv_has ls 2 [(0, .int i), (1, .int n)] := hl
  refine lv_iload_n hx hb dj_ci_0 rfl (lv_at hl 0 rfl) ?_
  refine lv_iload_n hx hb dj_ci_1 rfl (lv_at hl 1 rfl) ?_
  have hend : ∀ z : Value, z.category = 1 → va_Z "jdk/internal/util/Preconditions" "SIOOBE_FORMATTER" "Ljava/util/function/BiFunction;" z jF s s.heap → W p l e (jR 1 22) s m #[.int i, .int n] below meth c s.heap [] 0 0 (MQ below (jQ none) #[.int i, .int n] s 0 0 (fun _ => False)) (F0 m 2 ls [.int n, .int i]) := by
    intro z hz hZ
    refine va_gets hx hb hZ va_S.rf hown (hts _ wf_sioobe) (fun _ h => h) dj_ci_2 ?_
    refine j_callS (own := "java/lang/String") (n := 3) (As := [.int i, .int n, z]) (rest := []) (B := fun _ => True) hx hb (hml.trans hl.1.symm) hown hts (jc_pci l i n z hz h1 h2) wm_pci wj_pci_s wj_pci_i wj_pci_c ⟨by decide, by decide, by decide +kernel⟩ ⟨by decide, by decide⟩ ⟨Nat.le_refl _, Nat.le_refl _⟩ (fun _ _ _ => trivial) (fun _ _ _ _ _ => trivial) rfl (by decide) dj_ci_5 ?_
    refine lv_pop hx hb dj_ci_8 rfl ?_
    exact W.vret hx hb hr (fun t ht _ => ⟨rfl, ht⟩) (fun q h => by cases h) dj_ci_9 hlocks
  rcases j6 with h | ⟨t, h⟩
  · exact hend .null rfl h
  · exact hend (.ref t) rfl h
/-- StringLatin1.charAt, in range -/
theorem jc_lch (l : Launch) (a v : Nat) (bs : List Int32) (i : Int32) (hlen : bs.length < 2 ^ 31) (hin : vp_in i bs.length) : Met l y_lch (.code y_lch b_lch 2 (some .char) :: aTbl) (jR 2 43) (va_Pc [.ref v, .int i] (jS a v bs)) (jQ (some (.int (((bs.getD i.toNatClampNeg 0 &&& 255).toUInt32 % 65536).toInt32)))) 0 0 (fun _ => False) := by
  refine Met.ofW (cc := b_lch) (maxL := 2) (ret := some .char) (by decide) rfl ?_
  intro p e s m args below meth c s₁ B hml hv
  obtain ⟨rfl, hj⟩ := hv
  have hj0 := hj
  obtain ⟨j1, j2, j3, j4, j5, j6⟩ := hj
  have hx := B.exec
  have hb := B.bytes
  have hr := B.returns
  have hts0 := atoms_spec (ws := .code y_lch b_lch 2 (some .char) :: aTbl) B.pre
  have hts : ∀ w ∈ aTbl, w.before _ s = true := fun w hw => hts0 w (List.mem_cons_of_mem _ hw)
  have hown : s.vm.findClass "java/lang/StringLatin1" = some m.cls := findClass_of_methodNamed B.named
  have hlocks := B.notSynchronized
  have hl := lv_entry ([.ref v, .int i]) (n := 2) (Nat.le_of_ble_eq_true rfl)
  rw [lg_entry_eq]
  generalize (lg_sl ([.ref v, .int i]) ++ List.replicate (2 - (lg_sl ([.ref v, .int i])).length) Slot.unset).toArray = ls at hl ⊢
  have hl : lv_has ls 2 [(0, .ref v), (1, .int i)] := hl
  obtain ⟨j, hj9, rfl⟩ := vp_in_of hin hlen
  refine lv_iload_n hx hb dj_lch_0 rfl (lv_at hl 1 rfl) ?_
  refine lv_aload_n hx hb dj_lch_1 rfl (lv_at hl 0 rfl) ?_
  refine va_tlen hx hb j4 va_S.rf (v := Int32.ofNat bs.length) rfl dj_lch_2 ?_
  refine j_callS (own := "java/lang/StringLatin1") (n := 2) (As := [.int (nI j), .int (Int32.ofNat bs.length)]) (rest := []) (B := jS a v bs) hx hb (hml.trans hl.1.symm) hown hts (jc_ci l a v bs (nI j) (Int32.ofNat bs.length) (nI_pos (by omega)) (nI_lt hj9 hlen)) wm_ci wj_ci_s wj_ci_i wj_ci_c ⟨by decide, by decide, by decide +kernel⟩ ⟨by decide, by decide⟩ ⟨Nat.le_refl _, Nat.le_refl _⟩ (fun U hU hW => hj0.moved hW.alike hU) (fun u U hv hh h => h.moved (by rw [hv]; exact Vm.Alike.refl u.vm) hh) rfl (by decide) dj_lch_3 ?_
  refine lv_aload_n hx hb dj_lch_6 rfl (lv_at hl 0 rfl) ?_
  refine lv_iload_n hx hb dj_lch_7 rfl (lv_at hl 1 rfl) ?_
  refine va_tb hx hb j4 va_S.rf hin (v := .int (bs.getD (nI j).toNatClampNeg 0)) rfl dj_lch_8 ?_
  refine lv_sipush hx hb dj_lch_9 (v := 255) rfl ?_
  refine lv_iand hx hb dj_lch_12 ?_
  refine lv_i2c hx hb dj_lch_13 rfl ?_
  exact W.zret (ty := .char) hx hb hr (pk_nc _) (fun t ht _ => ⟨rfl, ht⟩) (fun q h => by cases h) dj_lch_14 hlocks
/-- charAt, in range -/
theorem jc_ch (l : Launch) (a v : Nat) (bs : List Int32) (i : Int32) (hlen : bs.length < 2 ^ 31) (hin : vp_in i bs.length) : Met l y_ch (.code y_ch b_ch 2 (some .char) :: aTbl) (jR 3 64) (va_Pc [.ref a, .int i] (jS a v bs)) (jQ (some (.int (((bs.getD i.toNatClampNeg 0 &&& 255).toUInt32 % 65536).toInt32)))) 0 0 (fun _ => False) := by
  refine Met.ofW (cc := b_ch) (maxL := 2) (ret := some .char) (by decide) rfl ?_
  intro p e s m args below meth c s₁ B hml hv
  obtain ⟨rfl, hj⟩ := hv
  have hj0 := hj
  obtain ⟨j1, j2, j3, j4, j5, j6⟩ := hj
  have hx := B.exec
  have hb := B.bytes
  have hr := B.returns
  have hts0 := atoms_spec (ws := .code y_ch b_ch 2 (some .char) :: aTbl) B.pre
  have hts : ∀ w ∈ aTbl, w.before _ s = true := fun w hw => hts0 w (List.mem_cons_of_mem _ hw)
  have hown : s.vm.findClass "java/lang/String" = some m.cls := findClass_of_methodNamed B.named
  have hlocks := B.notSynchronized
  have hl := lv_entry ([.ref a, .int i]) (n := 2) (Nat.le_of_ble_eq_true rfl)
  rw [lg_entry_eq]
  generalize (lg_sl ([.ref a, .int i]) ++ List.replicate (2 - (lg_sl ([.ref a, .int i])).length) Slot.unset).toArray = ls at hl ⊢
  have hl : lv_has ls 2 [(0, .ref a), (1, .int i)] := hl
  refine lv_aload_n hx hb dj_ch_0 rfl (lv_at hl 0 rfl) ?_
  refine j_callV (own := "java/lang/String") (n := 0) (As := []) (b := a) (rest := []) hx hb (hml.trans hl.1.symm) hown hts (jc_lat l a v bs) wm_lat wj_lat_s wj_lat_x wj_lat_i wj_lat_c ⟨by decide, by decide, by decide +kernel⟩ ⟨by decide, by decide⟩ ⟨Nat.le_refl _, Nat.le_refl _⟩ ?_ (fun U hU hW => hj0.moved hW.alike hU) (fun u U hv hh h => h.moved (by rw [hv]; exact Vm.Alike.refl u.vm) hh) rfl (by decide) dj_ch_1 ?_
  · obtain ⟨cell, q1, q2, q3, -⟩ := j1
    exact ⟨cell, q1, q2, q3⟩
  · refine lv_if_eq hx hb dj_ch_4 (tgt := 16) rfl (fun h => absurd h (by decide)) (fun _ => ?_)
    refine lv_aload_n hx hb dj_ch_7 rfl (lv_at hl 0 rfl) ?_
    refine j_getf hx hb j3 hown (hts _ wf_value) dj_ch_8 ?_
    refine lv_iload_n hx hb dj_ch_11 rfl (lv_at hl 1 rfl) ?_
    refine j_callS (own := "java/lang/String") (n := 2) (As := [.ref v, .int i]) (rest := []) (B := jS a v bs) hx hb (hml.trans hl.1.symm) hown hts (jc_lch l a v bs i hlen hin) wm_lch wj_lch_s wj_lch_i wj_lch_c ⟨by decide, by decide, by decide +kernel⟩ ⟨by decide, by decide⟩ ⟨Nat.le_refl _, Nat.le_refl _⟩ (fun U hU hW => hj0.moved hW.alike hU) (fun u U hv hh h => h.moved (by rw [hv]; exact Vm.Alike.refl u.vm) hh) rfl (by decide) dj_ch_12 ?_
    exact W.zret (ty := .char) hx hb hr (pk_nc _) (fun t ht _ => ⟨rfl, ht⟩) (fun q h => by cases h) dj_ch_15 hlocks
