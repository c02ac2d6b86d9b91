theorem q1 : True := trivial
