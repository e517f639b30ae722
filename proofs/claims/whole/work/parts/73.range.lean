/-! what a memory holds is an int: before a call and behind it -/
theorem kCall_pre {E : Ev} {h n : Nat} {as : List AV} {m : Mem} {Q : Option AV → Mem → Prop} (H : (∀ o i, inR (m o i)) → kCall E h n as m Q) : kCall E h n as m Q := by
  intro h' hh Q' hq ad hv p e ha hc hk s mm args below hf hap hP
  have hin : ∀ o i, inR (m o i) := hP.2.1.2.2
  exact H hin h' hh Q' hq ad hv p e ha hc hk s mm args below hf hap hP
theorem kCall_in {E : Ev} {h n : Nat} {as : List AV} {m : Mem} {Q : Option AV → Mem → Prop} (H : kCall E h n as m Q) : kCall E h n as m (fun r m' => Q r m' ∧ ∀ o i, inR (m' o i)) := by
  intro h' hh Q' hq ad hv
  have H1 := H h' hh Q (fun _ _ q => q) ad hv
  intro p e ha hc hk s mm args below hf hap hP hT
  obtain ⟨t, o, h1, h2, h3, ⟨⟨r, m', q1, q2, q3, q4⟩, q5⟩, q6⟩ := H1 p e ha hc hk s mm args below hf hap hP hT
  exact ⟨t, o, h1, h2, h3, ⟨⟨r, m', q1, hq r m' ⟨q2, q3.2.2⟩, q3, q4⟩, q5⟩, q6⟩
