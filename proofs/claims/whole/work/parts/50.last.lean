theorem ro_last : True := trivial
