theorem rg_spec : ∃ Inv : rg_M → Prop, rg_Spec Inv := sorry
