theorem Ctr.mono {l : Launch} {D : gD} {d : Nat} {y : MethodName} {cc : ByteArray} {nL : Nat} {ret : Option FieldType} {av : List Value} {μ : gMem} {post post' : gP} (h : Ctr l D d y cc nL ret av μ post) (hp : ∀ r μ', post r μ' → post' r μ') : Ctr l D d y cc nL ret av μ post' := by
  intro p e h1 h2 h3 s m args below h4 h5 h6 h7
  obtain ⟨n, o, g1, g2, g3, ⟨⟨⟨r, μ', e1, e2, e3, e4⟩, e5⟩, e6⟩⟩ := h p e h1 h2 h3 s m args below h4 h5 h6 h7
  exact ⟨n, o, g1, g2, g3, ⟨⟨r, μ', e1, hp r μ' e2, e3, e4⟩, e5⟩, e6⟩
