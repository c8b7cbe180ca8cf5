/-! what the launch's tables and strings give beside the words -/
def zSZ (w : zWd) : Prop := ∀ s : State, w.2.2.2.2 s → va_AO "DayOpeners$State" s ∧ True
