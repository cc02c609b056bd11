theorem ph_last : True := trivial
