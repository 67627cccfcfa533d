section PWL
theorem ly1 : layL [0, 7] = true := by decide +kernel
theorem ly2 : layL [1, 2, 7] = true := by decide +kernel
theorem ly3 : layL [1, 4, 6, 7] = true := by decide +kernel
theorem ly4 : layL [2, 2, 4, 7] = true := by decide +kernel
theorem ly5 : layL [2, 3, 3, 7] = true := by decide +kernel
theorem ly6 : layL [2, 3, 4, 6] = true := by decide +kernel
theorem ly7 : layL [1, 6, 7, 7, 7] = true := by decide +kernel
theorem ly8 : layL [2, 2, 7, 7, 7] = true := by decide +kernel
theorem ly9 : layL [2, 3, 6, 7, 7] = true := by decide +kernel
theorem ly10 : layL [2, 4, 5, 7, 7] = true := by decide +kernel
theorem ly11 : layL [2, 4, 6, 6, 7] = true := by decide +kernel
theorem ly12 : layL [3, 3, 4, 6, 7] = true := by decide +kernel
theorem ly13 : layL [3, 4, 4, 5, 7] = true := by decide +kernel
theorem maxL_lay : ∀ ms ∈ maxL, layL ms = true := by
  intro ms h
  have h' : ms = [0, 7] ∨ ms = [1, 2, 7] ∨ ms = [1, 4, 6, 7] ∨ ms = [2, 2, 4, 7] ∨ ms = [2, 3, 3, 7] ∨ ms = [2, 3, 4, 6] ∨ ms = [1, 6, 7, 7, 7] ∨ ms = [2, 2, 7, 7, 7] ∨ ms = [2, 3, 6, 7, 7] ∨ ms = [2, 4, 5, 7, 7] ∨ ms = [2, 4, 6, 6, 7] ∨ ms = [3, 3, 4, 6, 7] ∨ ms = [3, 4, 4, 5, 7] := by
    simpa only [maxL, List.mem_cons, List.not_mem_nil, or_false] using h
  rcases h' with rfl | rfl | rfl | rfl | rfl | rfl | rfl | rfl | rfl | rfl | rfl | rfl | rfl
  · exact ly1
  · exact ly2
  · exact ly3
  · exact ly4
  · exact ly5
  · exact ly6
  · exact ly7
  · exact ly8
  · exact ly9
  · exact ly10
  · exact ly11
  · exact ly12
  · exact ly13
theorem maxL_ok : ∀ ms ∈ maxL, 0 < ms.length ∧ ∀ m ∈ ms, m < 8 := by decide
theorem domA_of {n F : Nat} : ∀ (L : List (List Nat)), domA n F L = true → ∃ ms ∈ L, emb n F ms 0 = true := by
  intro L
  induction L with
  | nil => intro h; exact absurd h (by show ¬ false = true; decide)
  | cons ms L ih =>
    intro h
    have h' : cond (emb n F ms 0) true (domA n F L) = true := h
    cases e : emb n F ms 0 with
    | true => exact ⟨ms, by simp, e⟩
    | false => rw [e] at h'; obtain ⟨x, a, b⟩ := ih h'; exact ⟨x, by simp [a], b⟩
theorem no_run {n F : Nat} (h : domA n F maxL = true) : ¬ Rn n F 27 F := by
  obtain ⟨ms, hm, he⟩ := domA_of maxL h
  obtain ⟨hl, h8⟩ := maxL_ok ms hm
  obtain ⟨f, h1, h2⟩ := emb_of ms 0 he
  intro hr
  refine layL_of (maxL_lay ms hm) (Rn_dom f (fun j hj => ⟨(h1 j hj).1, ?_⟩) h2 hl 27 F _ (fun p _ => Nat.le_refl _) (fun j hj => ?_) hr)
  · rw [dg_enc ms j h8]; exact (h1 j hj).2.1
  · rw [dg_enc ms j h8]; exact (h1 j hj).2.1
end PWL
