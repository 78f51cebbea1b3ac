/-! the model's least number that is not there, by a loop without a bound -/
