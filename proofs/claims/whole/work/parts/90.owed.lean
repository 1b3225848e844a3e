theorem ac_last : True := trivial
