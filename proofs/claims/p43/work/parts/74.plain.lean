/-! The reference's plain what-if, with its cells; another village: a doubt -/
def plP (I : MI) : Prop := I 186 17 = nM ∧ I 186 18 = nM ∧ I 186 19 = nM ∧ I 186 23 = nM ∧ I 186 14 = nI 0 ∧ I 186 15 = nI 1
