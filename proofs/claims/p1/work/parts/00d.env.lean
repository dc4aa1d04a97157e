/-- whether the static row of no elements (and the class object of rows of objects) is among what the statement takes as given -/
def xHasE : Bool := false
