/-! A text by ldc_w. -/
section AL2
variable {E : aE} {p : Program} {l : Launch} {e : Env} {R : Room} {s : State} {m : MethodId} {args : Array Value} {below : List Frame} {meth : Method} {c : Code} {Q : State → Prop} {n0 z0 : Nat} {pc q index : Nat} {L : List (Option aV)} {st : List aV} {M : aM} {u : Bool}
theorem ag_ldcwS (X : aCx E p s m args meth c q) {tx : String} {id : Nat} (hZ : vk_R (tCn (tOwn q)) index tx (E.2.2.1 id) s) (hd : decode (tB q) pc = .ok (.ldc_w index, 3)) (k : aG E p l e R s m args below meth c n0 z0 Q u (pc + 3, L, aR 1 id :: st, M)) : aG E p l e R s m args below meth c n0 z0 Q u (pc, L, st, M) := by
  intro H locs ls hW hq hu hl T hT X9
  obtain ⟨t, a1, b1⟩ := k H locs ls hW hq hu hl T hT X9
  exact ⟨t, X9.ldcStringW X.1 X.2.2.2.1 (text := tx) (a := E.2.2.1 id) hZ.1 hZ.2 (g := F0 m pc ls (st.map (cv E))) rfl (by rw [X.2.1]; exact hd) t a1, b1⟩
end AL2
