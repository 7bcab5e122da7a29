/-! what each stretch of code asks, part 3 -/
