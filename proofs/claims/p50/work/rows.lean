section
/-! THIS CLAIM IS EMPTY AS IT IS PRINTED. The law's own method has an exception table (JAVAP.txt: 115..169 to 172, and 218..434 to 437 twice); the Statement's head word says 'code' of it, which means: no exception table. So no launch at all lists the claim, and both of its halves hold of nothing. The rows below show just that, and are no proof of what the property says. -/
theorem ev_nocode : classFile.hasCode x code maxLocals ret = false := by decide +kernel
theorem ev_none (l : Launch) (h : Lists l classFile x code maxLocals ret tables_1 room_1) : False := by
  obtain ⟨-, hf, ⟨hc, -⟩, -⟩ := h
  have hm : ((x, code, maxLocals, ret) : MethodName × ByteArray × Nat × Option FieldType) ∈ (headSpec (Jvm.Cond.code x code maxLocals ret :: tables_1) room_1).pre.codes ++ (headSpec (Jvm.Cond.code x code maxLocals ret :: tables_1) room_1).post.codes :=
    List.mem_append_left _ (List.mem_append_left _ (List.mem_singleton.mpr rfl))
  have h1 := hc _ hm
  have h2 : ((l.file? x.cls).any fun f => f.hasCode x code maxLocals ret) = true := h1
  rw [hf, Option.any_some, ev_nocode] at h2
  cases h2
theorem ev_no_start : ¬ MeetableFor flags0 classFile x code maxLocals ret World_1 tables_1 room_1 Calls_1 rest_1 Pre_1 := by
  intro h
  obtain ⟨l, p, e, s, m, args, below, -, hL, -⟩ := h
  exact ev_none l hL
theorem i_vc : Claimed_1_1 ∧ Claimed_1_2 := ⟨fun l _ hL _ => (ev_none l hL).elim, fun l _ hL _ => (ev_none l hL).elim⟩
end
